/-! straight stretches of bytecode, printed by wip/whole/gen_blk.py -/
section BLK
variable {sc : ipSc} {call : ipCall} {MC MS : Nat} {Q : ipQ} {h : HP} {z c s : Nat}
theorem b126_0 {r_0 : Nat} {x_1 : Int32} {x_2 : Int32} {x_3 : Int32} {fs1 : List Value} {P : ipQ} (e2 : h r_0 = some (.inr (9, fs1))) (m3 : c ≤ MC) (m4 : s ≤ MS) (hc : call 123 [(.ref r_0), (.int x_1), (.int x_2), (.int x_3)] h z 0 0 P) (K : ∀ (o : Option Value) (h2 : HP) (z2 : Nat), P o h2 z2 → ip sc call 126 MC MS Q 7 [some (.ref r_0), some (.int x_1), some (.int x_2), some (.int x_3)] (o.toList ++ []) h2 z2 c s) : ip sc call 126 MC MS Q 0 [some (.ref r_0), some (.int x_1), some (.int x_2), some (.int x_3)] [] h z c s := by
  refine jp_load (pc2 := 1) (n := 0) rfl rfl rfl rfl ?_
  refine jp_load (pc2 := 2) (n := 1) rfl rfl rfl rfl ?_
  refine jp_load (pc2 := 3) (n := 2) rfl rfl rfl rfl ?_
  refine jp_load (pc2 := 4) (n := 3) rfl rfl rfl rfl ?_
  exact jp_virt0 (pc2 := 7) (As := [(.int x_1), (.int x_2), (.int x_3)]) (rest := []) rfl rfl rfl (Nat.le_of_ble_eq_true rfl) e2 m3 m4 hc rfl K
theorem b126_7 {r_0 : Nat} {x_1 : Int32} {x_2 : Int32} {x_3 : Int32} {sx_0 : Int32}  (K1 : sx_0 = 0 → ip sc call 126 MC MS Q 24 [some (.ref r_0), some (.int x_1), some (.int x_2), some (.int x_3)] [] h z c s) (K2 : ¬ (sx_0 = 0) → ip sc call 126 MC MS Q 10 [some (.ref r_0), some (.int x_1), some (.int x_2), some (.int x_3)] [] h z c s) : ip sc call 126 MC MS Q 7 [some (.ref r_0), some (.int x_1), some (.int x_2), some (.int x_3)] [(.int sx_0)] h z c s := by
  exact jp_if0 (pc2 := 10) rfl rfl K1 K2
theorem b126_10 {r_0 : Nat} {x_1 : Int32} {x_2 : Int32} {x_3 : Int32} {fs1 : List Value} {P : ipQ} (e2 : h r_0 = some (.inr (9, fs1))) (m3 : c ≤ MC) (m4 : s ≤ MS) (hc : call 94 [(.ref r_0)] h z 0 0 P) (K : ∀ (o : Option Value) (h2 : HP) (z2 : Nat), P o h2 z2 → ip sc call 126 MC MS Q 15 [some (.ref r_0), some (.int x_1), some (.int x_2), some (.int x_3)] (o.toList ++ [(.ref r_0)]) h2 z2 c s) : ip sc call 126 MC MS Q 10 [some (.ref r_0), some (.int x_1), some (.int x_2), some (.int x_3)] [] h z c s := by
  refine jp_load (pc2 := 11) (n := 0) rfl rfl rfl rfl ?_
  refine jp_load (pc2 := 12) (n := 0) rfl rfl rfl rfl ?_
  exact jp_virt0 (pc2 := 15) (As := []) (rest := [(.ref r_0)]) rfl rfl rfl (Nat.le_of_ble_eq_true rfl) e2 m3 m4 hc rfl K
theorem b126_15 {o_0 : Option Value} {x_1 : Int32} {x_2 : Int32} {x_3 : Int32} {sr_0 : Nat} {sx_1 : Int32} {fs1 : List Value} {P : ipQ} (e2 : h sr_0 = some (.inr (9, fs1))) (m3 : c ≤ MC) (m4 : s ≤ MS) (hc : call 105 [(.ref sr_0), (.int sx_1), (.int x_1), (.int x_2), (.int x_3)] h z 0 0 P) (K : ∀ (o : Option Value) (h2 : HP) (z2 : Nat), P o h2 z2 → ip sc call 126 MC MS Q 21 [o_0, some (.int x_1), some (.int x_2), some (.int x_3)] (o.toList ++ []) h2 z2 c s) : ip sc call 126 MC MS Q 15 [o_0, some (.int x_1), some (.int x_2), some (.int x_3)] [(.int sx_1), (.ref sr_0)] h z c s := by
  refine jp_load (pc2 := 16) (n := 1) rfl rfl rfl rfl ?_
  refine jp_load (pc2 := 17) (n := 2) rfl rfl rfl rfl ?_
  refine jp_load (pc2 := 18) (n := 3) rfl rfl rfl rfl ?_
  exact jp_virt0 (pc2 := 21) (As := [(.int sx_1), (.int x_1), (.int x_2), (.int x_3)]) (rest := []) rfl rfl rfl (Nat.le_of_ble_eq_true rfl) e2 m3 m4 hc rfl K
theorem b126_21 {o_0 : Option Value} {o_1 : Option Value} {o_2 : Option Value} {o_3 : Option Value} {sx_0 : Int32}  (K : ip sc call 126 MC MS Q 25 [o_0, o_1, o_2, o_3] [(.int sx_0)] h z c s) : ip sc call 126 MC MS Q 21 [o_0, o_1, o_2, o_3] [(.int sx_0)] h z c s := by
  refine ip_goto rfl ?_
  exact K
theorem b126_24 {o_0 : Option Value} {o_1 : Option Value} {o_2 : Option Value} {o_3 : Option Value}  (K : ip sc call 126 MC MS Q 25 [o_0, o_1, o_2, o_3] [(.int ((-1)))] h z c s) : ip sc call 126 MC MS Q 24 [o_0, o_1, o_2, o_3] [] h z c s := by
  refine jp_con (pc2 := 25) (v := .int (-1)) rfl rfl rfl ?_
  exact K
theorem b126_25 {o_0 : Option Value} {o_1 : Option Value} {o_2 : Option Value} {o_3 : Option Value} {sx_0 : Int32} (q1 : Q (some (.int sx_0)) h z)  : ip sc call 126 MC MS Q 25 [o_0, o_1, o_2, o_3] [(.int sx_0)] h z c s := by
  exact ip_iret (st := []) rfl rfl rfl q1
theorem b127_0 {r_0 : Nat} {x_1 : Int32} {fs1 : List Value} {q_fs1_0 : Nat} {P : ipQ} (e2 : h r_0 = some (.inr (9, fs1))) (e3 : fs1[0]? = some (.ref q_fs1_0)) (m4 : c ≤ MC) (m5 : s ≤ MS) (hc : call 94 [(.ref r_0)] h z 0 0 P) (K : ∀ (o : Option Value) (h2 : HP) (z2 : Nat), P o h2 z2 → ip sc call 127 MC MS Q 9 [some (.ref r_0), some (.int x_1)] (o.toList ++ [(.ref q_fs1_0), (.int x_1)]) h2 z2 c s) : ip sc call 127 MC MS Q 0 [some (.ref r_0), some (.int x_1)] [] h z c s := by
  refine jp_load (pc2 := 1) (n := 1) rfl rfl rfl rfl ?_
  refine jp_load (pc2 := 2) (n := 0) rfl rfl rfl rfl ?_
  refine jp_getf (pc2 := 5) rfl rfl e2 e3 ?_
  refine jp_load (pc2 := 6) (n := 0) rfl rfl rfl rfl ?_
  exact jp_virt0 (pc2 := 9) (As := []) (rest := [(.ref q_fs1_0), (.int x_1)]) rfl rfl rfl (Nat.le_of_ble_eq_true rfl) e2 m4 m5 hc rfl K
theorem b127_9 {r_0 : Nat} {x_1 : Int32} {sx_0 : Int32} {sr_1 : Nat} {sx_2 : Int32} {n1 : Nat} {f2 : Nat → Int32} {P : ipQ} (e3 : h sr_1 = some (.inl (0, n1, .inl f2))) (b4 : vp_in (sx_2 + 0) n1) (m5 : c ≤ MC) (m6 : s ≤ MS) (hc : call 95 [(.int sx_0), (.int (f2 (sx_2 + 0).toNatClampNeg))] h z 0 0 P) (K : ∀ (o : Option Value) (h2 : HP) (z2 : Nat), P o h2 z2 → ip sc call 127 MC MS Q 15 [some (.ref r_0), some (.int x_1)] (o.toList ++ []) h2 z2 c s) : ip sc call 127 MC MS Q 9 [some (.ref r_0), some (.int x_1)] [(.int sx_2), (.ref sr_1), (.int sx_0)] h z c s := by
  refine jp_con (pc2 := 10) (v := .int 0) rfl rfl rfl ?_
  refine jp_bin (pc2 := 11) (v := sx_2 + 0) rfl rfl rfl ?_
  refine jp_iald (pc2 := 12) rfl rfl e3 b4 ?_
  exact jp_stat0 (pc2 := 15) (As := [(.int sx_0), (.int (f2 (sx_2 + 0).toNatClampNeg))]) (rest := []) rfl rfl rfl (Nat.le_of_ble_eq_true rfl) m5 m6 (by decide) hc rfl K
theorem b127_15 {r_0 : Nat} {x_1 : Int32} {sx_0 : Int32}  (K1 : sx_0 = 0 → ip sc call 127 MC MS Q 34 [some (.ref r_0), some (.int x_1)] [] h z c s) (K2 : ¬ (sx_0 = 0) → ip sc call 127 MC MS Q 18 [some (.ref r_0), some (.int x_1)] [] h z c s) : ip sc call 127 MC MS Q 15 [some (.ref r_0), some (.int x_1)] [(.int sx_0)] h z c s := by
  exact jp_if0 (pc2 := 18) rfl rfl K1 K2
theorem b127_18 {r_0 : Nat} {x_1 : Int32} {fs1 : List Value} {q_fs1_0 : Nat} {P : ipQ} (e2 : h r_0 = some (.inr (9, fs1))) (e3 : fs1[0]? = some (.ref q_fs1_0)) (m4 : c ≤ MC) (m5 : s ≤ MS) (hc : call 94 [(.ref r_0)] h z 0 0 P) (K : ∀ (o : Option Value) (h2 : HP) (z2 : Nat), P o h2 z2 → ip sc call 127 MC MS Q 26 [some (.ref r_0), some (.int x_1)] (o.toList ++ [(.ref q_fs1_0)]) h2 z2 c s) : ip sc call 127 MC MS Q 18 [some (.ref r_0), some (.int x_1)] [] h z c s := by
  refine jp_load (pc2 := 19) (n := 0) rfl rfl rfl rfl ?_
  refine jp_getf (pc2 := 22) rfl rfl e2 e3 ?_
  refine jp_load (pc2 := 23) (n := 0) rfl rfl rfl rfl ?_
  exact jp_virt0 (pc2 := 26) (As := []) (rest := [(.ref q_fs1_0)]) rfl rfl rfl (Nat.le_of_ble_eq_true rfl) e2 m4 m5 hc rfl K
theorem b127_26 {o_0 : Option Value} {x_1 : Int32} {sr_0 : Nat} {sx_1 : Int32} {n1 : Nat} {f2 : Nat → Int32} (e3 : h sr_0 = some (.inl (0, n1, .inl f2))) (b4 : vp_in ((sx_1 + 4) + x_1) n1) (K : ip sc call 127 MC MS Q 35 [o_0, some (.int x_1)] [(.int (f2 ((sx_1 + 4) + x_1).toNatClampNeg))] h z c s) : ip sc call 127 MC MS Q 26 [o_0, some (.int x_1)] [(.int sx_1), (.ref sr_0)] h z c s := by
  refine jp_con (pc2 := 27) (v := .int 4) rfl rfl rfl ?_
  refine jp_bin (pc2 := 28) (v := sx_1 + 4) rfl rfl rfl ?_
  refine jp_load (pc2 := 29) (n := 1) rfl rfl rfl rfl ?_
  refine jp_bin (pc2 := 30) (v := (sx_1 + 4) + x_1) rfl rfl rfl ?_
  refine jp_iald (pc2 := 31) rfl rfl e3 b4 ?_
  refine ip_goto rfl ?_
  exact K
theorem b127_34 {o_0 : Option Value} {o_1 : Option Value}  (K : ip sc call 127 MC MS Q 35 [o_0, o_1] [(.int ((-1)))] h z c s) : ip sc call 127 MC MS Q 34 [o_0, o_1] [] h z c s := by
  refine jp_con (pc2 := 35) (v := .int (-1)) rfl rfl rfl ?_
  exact K
theorem b127_35 {o_0 : Option Value} {o_1 : Option Value} {sx_0 : Int32} (q1 : Q (some (.int sx_0)) h z)  : ip sc call 127 MC MS Q 35 [o_0, o_1] [(.int sx_0)] h z c s := by
  exact ip_iret (st := []) rfl rfl rfl q1
theorem b128_0 {r_0 : Nat} {x_1 : Int32} {x_2 : Int32} {x_3 : Int32} {x_4 : Int32} {x_5 : Int32} {x_6 : Int32} {o_7 : Option Value} {o_8 : Option Value} {o_9 : Option Value} {o_10 : Option Value} {fs1 : List Value} {P : ipQ} (e2 : h r_0 = some (.inr (9, fs1))) (m3 : c ≤ MC) (m4 : s ≤ MS) (hc : call 94 [(.ref r_0)] h z 0 0 P) (K : ∀ (o : Option Value) (h2 : HP) (z2 : Nat), P o h2 z2 → ip sc call 128 MC MS Q 4 [some (.ref r_0), some (.int x_1), some (.int x_2), some (.int x_3), some (.int x_4), some (.int x_5), some (.int x_6), o_7, o_8, o_9, o_10] (o.toList ++ []) h2 z2 c s) : ip sc call 128 MC MS Q 0 [some (.ref r_0), some (.int x_1), some (.int x_2), some (.int x_3), some (.int x_4), some (.int x_5), some (.int x_6), o_7, o_8, o_9, o_10] [] h z c s := by
  refine jp_load (pc2 := 1) (n := 0) rfl rfl rfl rfl ?_
  exact jp_virt0 (pc2 := 4) (As := []) (rest := []) rfl rfl rfl (Nat.le_of_ble_eq_true rfl) e2 m3 m4 hc rfl K
theorem b128_4 {r_0 : Nat} {x_1 : Int32} {x_2 : Int32} {x_3 : Int32} {x_4 : Int32} {x_5 : Int32} {x_6 : Int32} {o_7 : Option Value} {o_8 : Option Value} {o_9 : Option Value} {o_10 : Option Value} {sx_0 : Int32} {fs1 : List Value} {q_fs1_0 : Nat} {n4 : Nat} {f5 : Nat → Int32} {P : ipQ} (e2 : h r_0 = some (.inr (9, fs1))) (e3 : fs1[0]? = some (.ref q_fs1_0)) (e6 : h q_fs1_0 = some (.inl (0, n4, .inl f5))) (b7 : vp_in (0 : Int32) n4) (m8 : c ≤ MC) (m9 : s ≤ MS) (hc : call 93 [(.int ((f5 (0 : Int32).toNatClampNeg) + 1))] h z 0 0 P) (K : ∀ (o : Option Value) (h2 : HP) (z2 : Nat), P o h2 z2 → ip sc call 128 MC MS Q 24 [some (.ref r_0), some (.int x_1), some (.int x_2), some (.int x_3), some (.int x_4), some (.int x_5), some (.int x_6), some (.int sx_0), some (.int (f5 (0 : Int32).toNatClampNeg)), o_9, o_10] (o.toList ++ [(.int sx_0), (.ref r_0)]) h2 z2 c s) : ip sc call 128 MC MS Q 4 [some (.ref r_0), some (.int x_1), some (.int x_2), some (.int x_3), some (.int x_4), some (.int x_5), some (.int x_6), o_7, o_8, o_9, o_10] [(.int sx_0)] h z c s := by
  refine jp_store (pc2 := 6) (n := 7) rfl rfl ⟨rfl, rfl⟩ rfl (Nat.le_of_ble_eq_true rfl) ?_
  refine jp_load (pc2 := 7) (n := 0) rfl rfl rfl rfl ?_
  refine jp_getf (pc2 := 10) rfl rfl e2 e3 ?_
  refine jp_con (pc2 := 11) (v := .int 0) rfl rfl rfl ?_
  refine jp_iald (pc2 := 12) rfl rfl e6 b7 ?_
  refine jp_store (pc2 := 14) (n := 8) rfl rfl ⟨rfl, rfl⟩ rfl (Nat.le_of_ble_eq_true rfl) ?_
  refine jp_load (pc2 := 15) (n := 0) rfl rfl rfl rfl ?_
  refine jp_load (pc2 := 17) (n := 7) rfl rfl rfl rfl ?_
  refine jp_load (pc2 := 19) (n := 8) rfl rfl rfl rfl ?_
  refine jp_con (pc2 := 20) (v := .int 1) rfl rfl rfl ?_
  refine jp_bin (pc2 := 21) (v := (f5 (0 : Int32).toNatClampNeg) + 1) rfl rfl rfl ?_
  exact jp_stat0 (pc2 := 24) (As := [(.int ((f5 (0 : Int32).toNatClampNeg) + 1))]) (rest := [(.int sx_0), (.ref r_0)]) rfl rfl rfl (Nat.le_of_ble_eq_true rfl) m8 m9 (by decide) hc rfl K
theorem b128_24 {r_0 : Nat} {x_1 : Int32} {x_2 : Int32} {x_3 : Int32} {x_4 : Int32} {x_5 : Int32} {x_6 : Int32} {o_7 : Option Value} {x_8 : Int32} {o_9 : Option Value} {o_10 : Option Value} {sr_0 : Nat} {sx_1 : Int32} {sx_2 : Int32} {fs1 : List Value} {P : ipQ} (e2 : h sr_0 = some (.inr (9, fs1))) (m3 : c ≤ MC) (m4 : s ≤ MS) (hc : call 108 [(.ref sr_0), (.int sx_1), (.int sx_2), (.int x_1), (.int x_2), (.int x_3), (.int x_4), (.int x_5), (.int x_6)] h z 0 0 P) (K : ∀ (o : Option Value) (h2 : HP) (z2 : Nat), P o h2 z2 → ip sc call 128 MC MS Q 36 [some (.ref r_0), some (.int x_1), some (.int x_2), some (.int x_3), some (.int x_4), some (.int x_5), some (.int x_6), o_7, some (.int x_8), o_9, o_10] (o.toList ++ []) h2 z2 c s) : ip sc call 128 MC MS Q 24 [some (.ref r_0), some (.int x_1), some (.int x_2), some (.int x_3), some (.int x_4), some (.int x_5), some (.int x_6), o_7, some (.int x_8), o_9, o_10] [(.int sx_2), (.int sx_1), (.ref sr_0)] h z c s := by
  refine jp_load (pc2 := 25) (n := 1) rfl rfl rfl rfl ?_
  refine jp_load (pc2 := 26) (n := 2) rfl rfl rfl rfl ?_
  refine jp_load (pc2 := 27) (n := 3) rfl rfl rfl rfl ?_
  refine jp_load (pc2 := 29) (n := 4) rfl rfl rfl rfl ?_
  refine jp_load (pc2 := 31) (n := 5) rfl rfl rfl rfl ?_
  refine jp_load (pc2 := 33) (n := 6) rfl rfl rfl rfl ?_
  exact jp_virt0 (pc2 := 36) (As := [(.int sx_1), (.int sx_2), (.int x_1), (.int x_2), (.int x_3), (.int x_4), (.int x_5), (.int x_6)]) (rest := []) rfl rfl rfl (Nat.le_of_ble_eq_true rfl) e2 m3 m4 hc rfl K
theorem b128_36 {r_0 : Nat} {x_1 : Int32} {x_2 : Int32} {x_3 : Int32} {x_4 : Int32} {x_5 : Int32} {x_6 : Int32} {o_7 : Option Value} {x_8 : Int32} {o_9 : Option Value} {o_10 : Option Value} {sx_0 : Int32} {fs1 : List Value} {q_fs1_0 : Nat} {n4 : Nat} {f5 : Nat → Int32} (e2 : h r_0 = some (.inr (9, fs1))) (e3 : fs1[0]? = some (.ref q_fs1_0)) (e6 : h q_fs1_0 = some (.inl (0, n4, .inl f5))) (b7 : vp_in (8020 + (6 * x_8)) n4) (n8 : r_0 ≠ q_fs1_0) (b9 : vp_in ((8020 + (6 * x_8)) + 1) n4) (b10 : vp_in ((8020 + (6 * x_8)) + 2) n4) (b11 : vp_in ((8020 + (6 * x_8)) + 3) n4) (b12 : vp_in ((8020 + (6 * x_8)) + 4) n4) (b13 : vp_in ((8020 + (6 * x_8)) + 5) n4) (b14 : vp_in (0 : Int32) n4) (q15 : Q (some (.int sx_0)) (hup (hup (hup (hup (hup (hup (hup h q_fs1_0 (.inl (0, n4, .inl (upd f5 (8020 + (6 * x_8)).toNatClampNeg x_1)))) q_fs1_0 (.inl (0, n4, .inl (upd ((upd f5 (8020 + (6 * x_8)).toNatClampNeg x_1)) ((8020 + (6 * x_8)) + 1).toNatClampNeg x_2)))) q_fs1_0 (.inl (0, n4, .inl (upd ((upd ((upd f5 (8020 + (6 * x_8)).toNatClampNeg x_1)) ((8020 + (6 * x_8)) + 1).toNatClampNeg x_2)) ((8020 + (6 * x_8)) + 2).toNatClampNeg x_3)))) q_fs1_0 (.inl (0, n4, .inl (upd ((upd ((upd ((upd f5 (8020 + (6 * x_8)).toNatClampNeg x_1)) ((8020 + (6 * x_8)) + 1).toNatClampNeg x_2)) ((8020 + (6 * x_8)) + 2).toNatClampNeg x_3)) ((8020 + (6 * x_8)) + 3).toNatClampNeg x_4)))) q_fs1_0 (.inl (0, n4, .inl (upd ((upd ((upd ((upd ((upd f5 (8020 + (6 * x_8)).toNatClampNeg x_1)) ((8020 + (6 * x_8)) + 1).toNatClampNeg x_2)) ((8020 + (6 * x_8)) + 2).toNatClampNeg x_3)) ((8020 + (6 * x_8)) + 3).toNatClampNeg x_4)) ((8020 + (6 * x_8)) + 4).toNatClampNeg x_5)))) q_fs1_0 (.inl (0, n4, .inl (upd ((upd ((upd ((upd ((upd ((upd f5 (8020 + (6 * x_8)).toNatClampNeg x_1)) ((8020 + (6 * x_8)) + 1).toNatClampNeg x_2)) ((8020 + (6 * x_8)) + 2).toNatClampNeg x_3)) ((8020 + (6 * x_8)) + 3).toNatClampNeg x_4)) ((8020 + (6 * x_8)) + 4).toNatClampNeg x_5)) ((8020 + (6 * x_8)) + 5).toNatClampNeg x_6)))) q_fs1_0 (.inl (0, n4, .inl (upd ((upd ((upd ((upd ((upd ((upd ((upd f5 (8020 + (6 * x_8)).toNatClampNeg x_1)) ((8020 + (6 * x_8)) + 1).toNatClampNeg x_2)) ((8020 + (6 * x_8)) + 2).toNatClampNeg x_3)) ((8020 + (6 * x_8)) + 3).toNatClampNeg x_4)) ((8020 + (6 * x_8)) + 4).toNatClampNeg x_5)) ((8020 + (6 * x_8)) + 5).toNatClampNeg x_6)) (0 : Int32).toNatClampNeg ((((upd ((upd ((upd ((upd ((upd ((upd f5 (8020 + (6 * x_8)).toNatClampNeg x_1)) ((8020 + (6 * x_8)) + 1).toNatClampNeg x_2)) ((8020 + (6 * x_8)) + 2).toNatClampNeg x_3)) ((8020 + (6 * x_8)) + 3).toNatClampNeg x_4)) ((8020 + (6 * x_8)) + 4).toNatClampNeg x_5)) ((8020 + (6 * x_8)) + 5).toNatClampNeg x_6)) (0 : Int32).toNatClampNeg) + 1))))) z)  : ip sc call 128 MC MS Q 36 [some (.ref r_0), some (.int x_1), some (.int x_2), some (.int x_3), some (.int x_4), some (.int x_5), some (.int x_6), o_7, some (.int x_8), o_9, o_10] [(.int sx_0)] h z c s := by
  refine jp_store (pc2 := 38) (n := 9) rfl rfl ⟨rfl, rfl⟩ rfl (Nat.le_of_ble_eq_true rfl) ?_
  refine jp_con (pc2 := 41) (v := .int 8020) rfl rfl rfl ?_
  refine jp_con (pc2 := 43) (v := .int 6) rfl rfl rfl ?_
  refine jp_load (pc2 := 45) (n := 8) rfl rfl rfl rfl ?_
  refine jp_bin (pc2 := 46) (v := 6 * x_8) rfl rfl rfl ?_
  refine jp_bin (pc2 := 47) (v := 8020 + (6 * x_8)) rfl rfl rfl ?_
  refine jp_store (pc2 := 49) (n := 10) rfl rfl ⟨rfl, rfl⟩ rfl (Nat.le_of_ble_eq_true rfl) ?_
  refine jp_load (pc2 := 50) (n := 0) rfl rfl rfl rfl ?_
  refine jp_getf (pc2 := 53) rfl rfl e2 e3 ?_
  refine jp_load (pc2 := 55) (n := 10) rfl rfl rfl rfl ?_
  refine jp_load (pc2 := 56) (n := 1) rfl rfl rfl rfl ?_
  refine jp_iast (pc2 := 57) rfl rfl e6 b7 ?_
  refine jp_load (pc2 := 58) (n := 0) rfl rfl rfl rfl ?_
  refine jp_getf (pc2 := 61) rfl rfl (hup_ne n8 e2) e3 ?_
  refine jp_load (pc2 := 63) (n := 10) rfl rfl rfl rfl ?_
  refine jp_con (pc2 := 64) (v := .int 1) rfl rfl rfl ?_
  refine jp_bin (pc2 := 65) (v := (8020 + (6 * x_8)) + 1) rfl rfl rfl ?_
  refine jp_load (pc2 := 66) (n := 2) rfl rfl rfl rfl ?_
  refine jp_iast (pc2 := 67) rfl rfl hup_eq b9 ?_
  refine jp_load (pc2 := 68) (n := 0) rfl rfl rfl rfl ?_
  refine jp_getf (pc2 := 71) rfl rfl (hup_ne n8 (hup_ne n8 e2)) e3 ?_
  refine jp_load (pc2 := 73) (n := 10) rfl rfl rfl rfl ?_
  refine jp_con (pc2 := 74) (v := .int 2) rfl rfl rfl ?_
  refine jp_bin (pc2 := 75) (v := (8020 + (6 * x_8)) + 2) rfl rfl rfl ?_
  refine jp_load (pc2 := 76) (n := 3) rfl rfl rfl rfl ?_
  refine jp_iast (pc2 := 77) rfl rfl hup_eq b10 ?_
  refine jp_load (pc2 := 78) (n := 0) rfl rfl rfl rfl ?_
  refine jp_getf (pc2 := 81) rfl rfl (hup_ne n8 (hup_ne n8 (hup_ne n8 e2))) e3 ?_
  refine jp_load (pc2 := 83) (n := 10) rfl rfl rfl rfl ?_
  refine jp_con (pc2 := 84) (v := .int 3) rfl rfl rfl ?_
  refine jp_bin (pc2 := 85) (v := (8020 + (6 * x_8)) + 3) rfl rfl rfl ?_
  refine jp_load (pc2 := 87) (n := 4) rfl rfl rfl rfl ?_
  refine jp_iast (pc2 := 88) rfl rfl hup_eq b11 ?_
  refine jp_load (pc2 := 89) (n := 0) rfl rfl rfl rfl ?_
  refine jp_getf (pc2 := 92) rfl rfl (hup_ne n8 (hup_ne n8 (hup_ne n8 (hup_ne n8 e2)))) e3 ?_
  refine jp_load (pc2 := 94) (n := 10) rfl rfl rfl rfl ?_
  refine jp_con (pc2 := 95) (v := .int 4) rfl rfl rfl ?_
  refine jp_bin (pc2 := 96) (v := (8020 + (6 * x_8)) + 4) rfl rfl rfl ?_
  refine jp_load (pc2 := 98) (n := 5) rfl rfl rfl rfl ?_
  refine jp_iast (pc2 := 99) rfl rfl hup_eq b12 ?_
  refine jp_load (pc2 := 100) (n := 0) rfl rfl rfl rfl ?_
  refine jp_getf (pc2 := 103) rfl rfl (hup_ne n8 (hup_ne n8 (hup_ne n8 (hup_ne n8 (hup_ne n8 e2))))) e3 ?_
  refine jp_load (pc2 := 105) (n := 10) rfl rfl rfl rfl ?_
  refine jp_con (pc2 := 106) (v := .int 5) rfl rfl rfl ?_
  refine jp_bin (pc2 := 107) (v := (8020 + (6 * x_8)) + 5) rfl rfl rfl ?_
  refine jp_load (pc2 := 109) (n := 6) rfl rfl rfl rfl ?_
  refine jp_iast (pc2 := 110) rfl rfl hup_eq b13 ?_
  refine jp_load (pc2 := 111) (n := 0) rfl rfl rfl rfl ?_
  refine jp_getf (pc2 := 114) rfl rfl (hup_ne n8 (hup_ne n8 (hup_ne n8 (hup_ne n8 (hup_ne n8 (hup_ne n8 e2)))))) e3 ?_
  refine jp_con (pc2 := 115) (v := .int 0) rfl rfl rfl ?_
  refine jp_dup2 (pc2 := 116) rfl rfl rfl rfl ?_
  refine jp_iald (pc2 := 117) rfl rfl hup_eq b14 ?_
  refine jp_con (pc2 := 118) (v := .int 1) rfl rfl rfl ?_
  refine jp_bin (pc2 := 119) (v := (((upd ((upd ((upd ((upd ((upd ((upd f5 (8020 + (6 * x_8)).toNatClampNeg x_1)) ((8020 + (6 * x_8)) + 1).toNatClampNeg x_2)) ((8020 + (6 * x_8)) + 2).toNatClampNeg x_3)) ((8020 + (6 * x_8)) + 3).toNatClampNeg x_4)) ((8020 + (6 * x_8)) + 4).toNatClampNeg x_5)) ((8020 + (6 * x_8)) + 5).toNatClampNeg x_6)) (0 : Int32).toNatClampNeg) + 1) rfl rfl rfl ?_
  refine jp_iast (pc2 := 120) rfl rfl hup_eq b14 ?_
  refine jp_load (pc2 := 122) (n := 9) rfl rfl rfl rfl ?_
  exact ip_iret (st := []) rfl rfl rfl q15
theorem b129_0 {r_0 : Nat} {x_1 : Int32} {x_2 : Int32} {x_3 : Int32} {x_4 : Int32} {x_5 : Int32} {x_6 : Int32} {o_7 : Option Value} {fs1 : List Value} {P : ipQ} (e2 : h r_0 = some (.inr (9, fs1))) (m3 : c ≤ MC) (m4 : s ≤ MS) (hc : call 123 [(.ref r_0), (.int x_1), (.int x_2), (.int x_3)] h z 0 0 P) (K : ∀ (o : Option Value) (h2 : HP) (z2 : Nat), P o h2 z2 → ip sc call 129 MC MS Q 7 [some (.ref r_0), some (.int x_1), some (.int x_2), some (.int x_3), some (.int x_4), some (.int x_5), some (.int x_6), o_7] (o.toList ++ []) h2 z2 c s) : ip sc call 129 MC MS Q 0 [some (.ref r_0), some (.int x_1), some (.int x_2), some (.int x_3), some (.int x_4), some (.int x_5), some (.int x_6), o_7] [] h z c s := by
  refine jp_load (pc2 := 1) (n := 0) rfl rfl rfl rfl ?_
  refine jp_load (pc2 := 2) (n := 1) rfl rfl rfl rfl ?_
  refine jp_load (pc2 := 3) (n := 2) rfl rfl rfl rfl ?_
  refine jp_load (pc2 := 4) (n := 3) rfl rfl rfl rfl ?_
  exact jp_virt0 (pc2 := 7) (As := [(.int x_1), (.int x_2), (.int x_3)]) (rest := []) rfl rfl rfl (Nat.le_of_ble_eq_true rfl) e2 m3 m4 hc rfl K
theorem b129_7 {r_0 : Nat} {x_1 : Int32} {x_2 : Int32} {x_3 : Int32} {x_4 : Int32} {x_5 : Int32} {x_6 : Int32} {o_7 : Option Value} {sx_0 : Int32}  (K1 : sx_0 = 0 → ip sc call 129 MC MS Q 40 [some (.ref r_0), some (.int x_1), some (.int x_2), some (.int x_3), some (.int x_4), some (.int x_5), some (.int x_6), o_7] [] h z c s) (K2 : ¬ (sx_0 = 0) → ip sc call 129 MC MS Q 10 [some (.ref r_0), some (.int x_1), some (.int x_2), some (.int x_3), some (.int x_4), some (.int x_5), some (.int x_6), o_7] [] h z c s) : ip sc call 129 MC MS Q 7 [some (.ref r_0), some (.int x_1), some (.int x_2), some (.int x_3), some (.int x_4), some (.int x_5), some (.int x_6), o_7] [(.int sx_0)] h z c s := by
  exact jp_if0 (pc2 := 10) rfl rfl K1 K2
theorem b129_10 {r_0 : Nat} {x_1 : Int32} {x_2 : Int32} {x_3 : Int32} {x_4 : Int32} {x_5 : Int32} {x_6 : Int32} {o_7 : Option Value} {fs1 : List Value} {P : ipQ} (e2 : h r_0 = some (.inr (9, fs1))) (m3 : c ≤ MC) (m4 : s ≤ MS) (hc : call 123 [(.ref r_0), (.int x_1), (.int x_4), (.int x_5)] h z 0 0 P) (K : ∀ (o : Option Value) (h2 : HP) (z2 : Nat), P o h2 z2 → ip sc call 129 MC MS Q 19 [some (.ref r_0), some (.int x_1), some (.int x_2), some (.int x_3), some (.int x_4), some (.int x_5), some (.int x_6), o_7] (o.toList ++ []) h2 z2 c s) : ip sc call 129 MC MS Q 10 [some (.ref r_0), some (.int x_1), some (.int x_2), some (.int x_3), some (.int x_4), some (.int x_5), some (.int x_6), o_7] [] h z c s := by
  refine jp_load (pc2 := 11) (n := 0) rfl rfl rfl rfl ?_
  refine jp_load (pc2 := 12) (n := 1) rfl rfl rfl rfl ?_
  refine jp_load (pc2 := 14) (n := 4) rfl rfl rfl rfl ?_
  refine jp_load (pc2 := 16) (n := 5) rfl rfl rfl rfl ?_
  exact jp_virt0 (pc2 := 19) (As := [(.int x_1), (.int x_4), (.int x_5)]) (rest := []) rfl rfl rfl (Nat.le_of_ble_eq_true rfl) e2 m3 m4 hc rfl K
theorem b129_19 {r_0 : Nat} {x_1 : Int32} {x_2 : Int32} {x_3 : Int32} {x_4 : Int32} {x_5 : Int32} {x_6 : Int32} {o_7 : Option Value} {sx_0 : Int32}  (K1 : sx_0 = 0 → ip sc call 129 MC MS Q 40 [some (.ref r_0), some (.int x_1), some (.int x_2), some (.int x_3), some (.int x_4), some (.int x_5), some (.int x_6), o_7] [] h z c s) (K2 : ¬ (sx_0 = 0) → ip sc call 129 MC MS Q 22 [some (.ref r_0), some (.int x_1), some (.int x_2), some (.int x_3), some (.int x_4), some (.int x_5), some (.int x_6), o_7] [] h z c s) : ip sc call 129 MC MS Q 19 [some (.ref r_0), some (.int x_1), some (.int x_2), some (.int x_3), some (.int x_4), some (.int x_5), some (.int x_6), o_7] [(.int sx_0)] h z c s := by
  exact jp_if0 (pc2 := 22) rfl rfl K1 K2
theorem b129_22 {r_0 : Nat} {x_1 : Int32} {x_2 : Int32} {x_3 : Int32} {x_4 : Int32} {x_5 : Int32} {x_6 : Int32} {o_7 : Option Value}  (K1 : x_4 < x_2 → ip sc call 129 MC MS Q 40 [some (.ref r_0), some (.int x_1), some (.int x_2), some (.int x_3), some (.int x_4), some (.int x_5), some (.int x_6), o_7] [] h z c s) (K2 : ¬ (x_4 < x_2) → ip sc call 129 MC MS Q 28 [some (.ref r_0), some (.int x_1), some (.int x_2), some (.int x_3), some (.int x_4), some (.int x_5), some (.int x_6), o_7] [] h z c s) : ip sc call 129 MC MS Q 22 [some (.ref r_0), some (.int x_1), some (.int x_2), some (.int x_3), some (.int x_4), some (.int x_5), some (.int x_6), o_7] [] h z c s := by
  refine jp_load (pc2 := 23) (n := 2) rfl rfl rfl rfl ?_
  refine jp_load (pc2 := 25) (n := 4) rfl rfl rfl rfl ?_
  exact jp_icmp (pc2 := 28) rfl rfl K1 K2
theorem b129_28 {r_0 : Nat} {x_1 : Int32} {x_2 : Int32} {x_3 : Int32} {x_4 : Int32} {x_5 : Int32} {x_6 : Int32} {o_7 : Option Value}  (K1 : ¬ x_2 = x_4 → ip sc call 129 MC MS Q 42 [some (.ref r_0), some (.int x_1), some (.int x_2), some (.int x_3), some (.int x_4), some (.int x_5), some (.int x_6), o_7] [] h z c s) (K2 : ¬ (¬ x_2 = x_4) → ip sc call 129 MC MS Q 34 [some (.ref r_0), some (.int x_1), some (.int x_2), some (.int x_3), some (.int x_4), some (.int x_5), some (.int x_6), o_7] [] h z c s) : ip sc call 129 MC MS Q 28 [some (.ref r_0), some (.int x_1), some (.int x_2), some (.int x_3), some (.int x_4), some (.int x_5), some (.int x_6), o_7] [] h z c s := by
  refine jp_load (pc2 := 29) (n := 2) rfl rfl rfl rfl ?_
  refine jp_load (pc2 := 31) (n := 4) rfl rfl rfl rfl ?_
  exact jp_icmp (pc2 := 34) rfl rfl K1 K2
theorem b129_34 {r_0 : Nat} {x_1 : Int32} {x_2 : Int32} {x_3 : Int32} {x_4 : Int32} {x_5 : Int32} {x_6 : Int32} {o_7 : Option Value}  (K1 : x_3 ≤ x_5 → ip sc call 129 MC MS Q 42 [some (.ref r_0), some (.int x_1), some (.int x_2), some (.int x_3), some (.int x_4), some (.int x_5), some (.int x_6), o_7] [] h z c s) (K2 : ¬ (x_3 ≤ x_5) → ip sc call 129 MC MS Q 40 [some (.ref r_0), some (.int x_1), some (.int x_2), some (.int x_3), some (.int x_4), some (.int x_5), some (.int x_6), o_7] [] h z c s) : ip sc call 129 MC MS Q 34 [some (.ref r_0), some (.int x_1), some (.int x_2), some (.int x_3), some (.int x_4), some (.int x_5), some (.int x_6), o_7] [] h z c s := by
  refine jp_load (pc2 := 35) (n := 3) rfl rfl rfl rfl ?_
  refine jp_load (pc2 := 37) (n := 5) rfl rfl rfl rfl ?_
  exact jp_icmp (pc2 := 40) rfl rfl K1 K2
theorem b129_40 {o_0 : Option Value} {o_1 : Option Value} {o_2 : Option Value} {o_3 : Option Value} {o_4 : Option Value} {o_5 : Option Value} {o_6 : Option Value} {o_7 : Option Value} (q1 : Q (some (.int ((-1)))) h z)  : ip sc call 129 MC MS Q 40 [o_0, o_1, o_2, o_3, o_4, o_5, o_6, o_7] [] h z c s := by
  refine jp_con (pc2 := 41) (v := .int (-1)) rfl rfl rfl ?_
  exact ip_iret (st := []) rfl rfl rfl q1
theorem b129_42 {r_0 : Nat} {x_1 : Int32} {x_2 : Int32} {x_3 : Int32} {x_4 : Int32} {x_5 : Int32} {x_6 : Int32} {o_7 : Option Value}  (K1 : ¬ x_2 = x_4 → ip sc call 129 MC MS Q 69 [some (.ref r_0), some (.int x_1), some (.int x_2), some (.int x_3), some (.int x_4), some (.int x_5), some (.int x_6), o_7] [] h z c s) (K2 : ¬ (¬ x_2 = x_4) → ip sc call 129 MC MS Q 48 [some (.ref r_0), some (.int x_1), some (.int x_2), some (.int x_3), some (.int x_4), some (.int x_5), some (.int x_6), o_7] [] h z c s) : ip sc call 129 MC MS Q 42 [some (.ref r_0), some (.int x_1), some (.int x_2), some (.int x_3), some (.int x_4), some (.int x_5), some (.int x_6), o_7] [] h z c s := by
  refine jp_load (pc2 := 43) (n := 2) rfl rfl rfl rfl ?_
  refine jp_load (pc2 := 45) (n := 4) rfl rfl rfl rfl ?_
  exact jp_icmp (pc2 := 48) rfl rfl K1 K2
theorem b129_48 {r_0 : Nat} {x_1 : Int32} {x_2 : Int32} {x_3 : Int32} {x_4 : Int32} {x_5 : Int32} {x_6 : Int32} {o_7 : Option Value} {fs1 : List Value} {q_fs1_0 : Nat} {P : ipQ} (e2 : h r_0 = some (.inr (9, fs1))) (e3 : fs1[0]? = some (.ref q_fs1_0)) (m4 : c ≤ MC) (m5 : s ≤ MS) (hc : call 94 [(.ref r_0)] h z 0 0 P) (K : ∀ (o : Option Value) (h2 : HP) (z2 : Nat), P o h2 z2 → ip sc call 129 MC MS Q 57 [some (.ref r_0), some (.int x_1), some (.int x_2), some (.int x_3), some (.int x_4), some (.int x_5), some (.int x_6), o_7] (o.toList ++ [(.ref q_fs1_0), (.int 1)]) h2 z2 c s) : ip sc call 129 MC MS Q 48 [some (.ref r_0), some (.int x_1), some (.int x_2), some (.int x_3), some (.int x_4), some (.int x_5), some (.int x_6), o_7] [] h z c s := by
  refine jp_con (pc2 := 49) (v := .int 1) rfl rfl rfl ?_
  refine jp_load (pc2 := 50) (n := 0) rfl rfl rfl rfl ?_
  refine jp_getf (pc2 := 53) rfl rfl e2 e3 ?_
  refine jp_load (pc2 := 54) (n := 0) rfl rfl rfl rfl ?_
  exact jp_virt0 (pc2 := 57) (As := []) (rest := [(.ref q_fs1_0), (.int 1)]) rfl rfl rfl (Nat.le_of_ble_eq_true rfl) e2 m4 m5 hc rfl K
theorem b129_57 {r_0 : Nat} {x_1 : Int32} {x_2 : Int32} {x_3 : Int32} {x_4 : Int32} {x_5 : Int32} {x_6 : Int32} {o_7 : Option Value} {sx_0 : Int32} {sr_1 : Nat} {sx_2 : Int32} {n1 : Nat} {f2 : Nat → Int32} (e3 : h sr_1 = some (.inl (0, n1, .inl f2))) (b4 : vp_in ((sx_2 + 36) + x_1) n1) (K : ip sc call 129 MC MS Q 70 [some (.ref r_0), some (.int x_1), some (.int x_2), some (.int x_3), some (.int x_4), some (.int x_5), some (.int x_6), o_7] [(.int (sx_0 <<< (((f2 ((sx_2 + 36) + x_1).toNatClampNeg) - 1) &&& 31)))] h z c s) : ip sc call 129 MC MS Q 57 [some (.ref r_0), some (.int x_1), some (.int x_2), some (.int x_3), some (.int x_4), some (.int x_5), some (.int x_6), o_7] [(.int sx_2), (.ref sr_1), (.int sx_0)] h z c s := by
  refine jp_con (pc2 := 59) (v := .int 36) rfl rfl rfl ?_
  refine jp_bin (pc2 := 60) (v := sx_2 + 36) rfl rfl rfl ?_
  refine jp_load (pc2 := 61) (n := 1) rfl rfl rfl rfl ?_
  refine jp_bin (pc2 := 62) (v := (sx_2 + 36) + x_1) rfl rfl rfl ?_
  refine jp_iald (pc2 := 63) rfl rfl e3 b4 ?_
  refine jp_con (pc2 := 64) (v := .int 1) rfl rfl rfl ?_
  refine jp_bin (pc2 := 65) (v := (f2 ((sx_2 + 36) + x_1).toNatClampNeg) - 1) rfl rfl rfl ?_
  refine jp_bin (pc2 := 66) (v := sx_0 <<< (((f2 ((sx_2 + 36) + x_1).toNatClampNeg) - 1) &&& 31)) rfl rfl rfl ?_
  refine ip_goto rfl ?_
  exact K
theorem b129_69 {r_0 : Nat} {x_1 : Int32} {x_2 : Int32} {x_3 : Int32} {x_4 : Int32} {x_5 : Int32} {x_6 : Int32} {o_7 : Option Value}  (K : ip sc call 129 MC MS Q 70 [some (.ref r_0), some (.int x_1), some (.int x_2), some (.int x_3), some (.int x_4), some (.int x_5), some (.int x_6), o_7] [(.int 1)] h z c s) : ip sc call 129 MC MS Q 69 [some (.ref r_0), some (.int x_1), some (.int x_2), some (.int x_3), some (.int x_4), some (.int x_5), some (.int x_6), o_7] [] h z c s := by
  refine jp_con (pc2 := 70) (v := .int 1) rfl rfl rfl ?_
  exact K
theorem b129_70 {r_0 : Nat} {x_1 : Int32} {x_2 : Int32} {x_3 : Int32} {x_4 : Int32} {x_5 : Int32} {x_6 : Int32} {o_7 : Option Value} {sx_0 : Int32} {P : ipQ} (m1 : c ≤ MC) (m2 : s ≤ MS) (hc : call 95 [(.int x_6), (.int sx_0)] h z 0 0 P) (K : ∀ (o : Option Value) (h2 : HP) (z2 : Nat), P o h2 z2 → ip sc call 129 MC MS Q 79 [some (.ref r_0), some (.int x_1), some (.int x_2), some (.int x_3), some (.int x_4), some (.int x_5), some (.int x_6), some (.int sx_0)] (o.toList ++ []) h2 z2 c s) : ip sc call 129 MC MS Q 70 [some (.ref r_0), some (.int x_1), some (.int x_2), some (.int x_3), some (.int x_4), some (.int x_5), some (.int x_6), o_7] [(.int sx_0)] h z c s := by
  refine jp_store (pc2 := 72) (n := 7) rfl rfl ⟨rfl, rfl⟩ rfl (Nat.le_of_ble_eq_true rfl) ?_
  refine jp_load (pc2 := 74) (n := 6) rfl rfl rfl rfl ?_
  refine jp_load (pc2 := 76) (n := 7) rfl rfl rfl rfl ?_
  exact jp_stat0 (pc2 := 79) (As := [(.int x_6), (.int sx_0)]) (rest := []) rfl rfl rfl (Nat.le_of_ble_eq_true rfl) m1 m2 (by decide) hc rfl K
theorem b129_79 {r_0 : Nat} {x_1 : Int32} {x_2 : Int32} {x_3 : Int32} {x_4 : Int32} {x_5 : Int32} {x_6 : Int32} {o_7 : Option Value} {sx_0 : Int32}  (K1 : sx_0 = 0 → ip sc call 129 MC MS Q 100 [some (.ref r_0), some (.int x_1), some (.int x_2), some (.int x_3), some (.int x_4), some (.int x_5), some (.int x_6), o_7] [] h z c s) (K2 : ¬ (sx_0 = 0) → ip sc call 129 MC MS Q 82 [some (.ref r_0), some (.int x_1), some (.int x_2), some (.int x_3), some (.int x_4), some (.int x_5), some (.int x_6), o_7] [] h z c s) : ip sc call 129 MC MS Q 79 [some (.ref r_0), some (.int x_1), some (.int x_2), some (.int x_3), some (.int x_4), some (.int x_5), some (.int x_6), o_7] [(.int sx_0)] h z c s := by
  exact jp_if0 (pc2 := 82) rfl rfl K1 K2
theorem b129_82 {r_0 : Nat} {x_1 : Int32} {x_2 : Int32} {x_3 : Int32} {x_4 : Int32} {x_5 : Int32} {x_6 : Int32} {o_7 : Option Value} {fs1 : List Value} {P : ipQ} (e2 : h r_0 = some (.inr (9, fs1))) (m3 : c ≤ MC) (m4 : s ≤ MS) (hc : call 94 [(.ref r_0)] h z 0 0 P) (K : ∀ (o : Option Value) (h2 : HP) (z2 : Nat), P o h2 z2 → ip sc call 129 MC MS Q 87 [some (.ref r_0), some (.int x_1), some (.int x_2), some (.int x_3), some (.int x_4), some (.int x_5), some (.int x_6), o_7] (o.toList ++ [(.ref r_0)]) h2 z2 c s) : ip sc call 129 MC MS Q 82 [some (.ref r_0), some (.int x_1), some (.int x_2), some (.int x_3), some (.int x_4), some (.int x_5), some (.int x_6), o_7] [] h z c s := by
  refine jp_load (pc2 := 83) (n := 0) rfl rfl rfl rfl ?_
  refine jp_load (pc2 := 84) (n := 0) rfl rfl rfl rfl ?_
  exact jp_virt0 (pc2 := 87) (As := []) (rest := [(.ref r_0)]) rfl rfl rfl (Nat.le_of_ble_eq_true rfl) e2 m3 m4 hc rfl K
theorem b129_87 {r_0 : Nat} {x_1 : Int32} {x_2 : Int32} {x_3 : Int32} {x_4 : Int32} {x_5 : Int32} {x_6 : Int32} {o_7 : Option Value} {sr_0 : Nat} {sx_1 : Int32} {fs1 : List Value} {P : ipQ} (e2 : h sr_0 = some (.inr (9, fs1))) (m3 : c ≤ MC) (m4 : s ≤ MS) (hc : call 106 [(.ref sr_0), (.int sx_1), (.int x_1), (.int x_2), (.int x_3), (.int x_4), (.int x_5)] h z 0 0 P) (K : ∀ (o : Option Value) (h2 : HP) (z2 : Nat), P o h2 z2 → ip sc call 129 MC MS Q 97 [some (.ref r_0), some (.int x_1), some (.int x_2), some (.int x_3), some (.int x_4), some (.int x_5), some (.int x_6), o_7] (o.toList ++ []) h2 z2 c s) : ip sc call 129 MC MS Q 87 [some (.ref r_0), some (.int x_1), some (.int x_2), some (.int x_3), some (.int x_4), some (.int x_5), some (.int x_6), o_7] [(.int sx_1), (.ref sr_0)] h z c s := by
  refine jp_load (pc2 := 88) (n := 1) rfl rfl rfl rfl ?_
  refine jp_load (pc2 := 89) (n := 2) rfl rfl rfl rfl ?_
  refine jp_load (pc2 := 90) (n := 3) rfl rfl rfl rfl ?_
  refine jp_load (pc2 := 92) (n := 4) rfl rfl rfl rfl ?_
  refine jp_load (pc2 := 94) (n := 5) rfl rfl rfl rfl ?_
  exact jp_virt0 (pc2 := 97) (As := [(.int sx_1), (.int x_1), (.int x_2), (.int x_3), (.int x_4), (.int x_5)]) (rest := []) rfl rfl rfl (Nat.le_of_ble_eq_true rfl) e2 m3 m4 hc rfl K
theorem b129_97 {r_0 : Nat} {x_1 : Int32} {x_2 : Int32} {x_3 : Int32} {x_4 : Int32} {x_5 : Int32} {x_6 : Int32} {o_7 : Option Value} {sx_0 : Int32}  (K1 : ¬ sx_0 = 0 → ip sc call 129 MC MS Q 102 [some (.ref r_0), some (.int x_1), some (.int x_2), some (.int x_3), some (.int x_4), some (.int x_5), some (.int x_6), o_7] [] h z c s) (K2 : ¬ (¬ sx_0 = 0) → ip sc call 129 MC MS Q 100 [some (.ref r_0), some (.int x_1), some (.int x_2), some (.int x_3), some (.int x_4), some (.int x_5), some (.int x_6), o_7] [] h z c s) : ip sc call 129 MC MS Q 97 [some (.ref r_0), some (.int x_1), some (.int x_2), some (.int x_3), some (.int x_4), some (.int x_5), some (.int x_6), o_7] [(.int sx_0)] h z c s := by
  exact jp_if0 (pc2 := 100) rfl rfl K1 K2
theorem b129_100 {o_0 : Option Value} {o_1 : Option Value} {o_2 : Option Value} {o_3 : Option Value} {o_4 : Option Value} {o_5 : Option Value} {o_6 : Option Value} {o_7 : Option Value} (q1 : Q (some (.int ((-1)))) h z)  : ip sc call 129 MC MS Q 100 [o_0, o_1, o_2, o_3, o_4, o_5, o_6, o_7] [] h z c s := by
  refine jp_con (pc2 := 101) (v := .int (-1)) rfl rfl rfl ?_
  exact ip_iret (st := []) rfl rfl rfl q1
theorem b129_102 {r_0 : Nat} {x_1 : Int32} {x_2 : Int32} {x_3 : Int32} {x_4 : Int32} {x_5 : Int32} {x_6 : Int32} {o_7 : Option Value} {fs1 : List Value} {P : ipQ} (e2 : h r_0 = some (.inr (9, fs1))) (m3 : c ≤ MC) (m4 : s ≤ MS) (hc : call 128 [(.ref r_0), (.int x_1), (.int x_2), (.int x_3), (.int x_4), (.int x_5), (.int x_6)] h z 0 0 P) (K : ∀ (o : Option Value) (h2 : HP) (z2 : Nat), P o h2 z2 → ip sc call 129 MC MS Q 115 [some (.ref r_0), some (.int x_1), some (.int x_2), some (.int x_3), some (.int x_4), some (.int x_5), some (.int x_6), o_7] (o.toList ++ []) h2 z2 c s) : ip sc call 129 MC MS Q 102 [some (.ref r_0), some (.int x_1), some (.int x_2), some (.int x_3), some (.int x_4), some (.int x_5), some (.int x_6), o_7] [] h z c s := by
  refine jp_load (pc2 := 103) (n := 0) rfl rfl rfl rfl ?_
  refine jp_load (pc2 := 104) (n := 1) rfl rfl rfl rfl ?_
  refine jp_load (pc2 := 105) (n := 2) rfl rfl rfl rfl ?_
  refine jp_load (pc2 := 106) (n := 3) rfl rfl rfl rfl ?_
  refine jp_load (pc2 := 108) (n := 4) rfl rfl rfl rfl ?_
  refine jp_load (pc2 := 110) (n := 5) rfl rfl rfl rfl ?_
  refine jp_load (pc2 := 112) (n := 6) rfl rfl rfl rfl ?_
  exact jp_virt0 (pc2 := 115) (As := [(.int x_1), (.int x_2), (.int x_3), (.int x_4), (.int x_5), (.int x_6)]) (rest := []) rfl rfl rfl (Nat.le_of_ble_eq_true rfl) e2 m3 m4 hc rfl K
theorem b129_115 {o_0 : Option Value} {o_1 : Option Value} {o_2 : Option Value} {o_3 : Option Value} {o_4 : Option Value} {o_5 : Option Value} {o_6 : Option Value} {o_7 : Option Value} {sx_0 : Int32} (q1 : Q (some (.int sx_0)) h z)  : ip sc call 129 MC MS Q 115 [o_0, o_1, o_2, o_3, o_4, o_5, o_6, o_7] [(.int sx_0)] h z c s := by
  exact ip_iret (st := []) rfl rfl rfl q1
theorem b130_0 {r_0 : Nat} {o_1 : Option Value} {fs1 : List Value} {P : ipQ} (e2 : h r_0 = some (.inr (9, fs1))) (m3 : c ≤ MC) (m4 : s ≤ MS) (hc : call 112 [(.ref r_0)] h z 0 0 P) (K : ∀ (o : Option Value) (h2 : HP) (z2 : Nat), P o h2 z2 → ip sc call 130 MC MS Q 6 [some (.ref r_0), some (.int 0)] (o.toList ++ []) h2 z2 c s) : ip sc call 130 MC MS Q 0 [some (.ref r_0), o_1] [] h z c s := by
  refine jp_con (pc2 := 1) (v := .int 0) rfl rfl rfl ?_
  refine jp_store (pc2 := 2) (n := 1) rfl rfl ⟨rfl, rfl⟩ rfl (Nat.le_of_ble_eq_true rfl) ?_
  refine jp_load (pc2 := 3) (n := 0) rfl rfl rfl rfl ?_
  exact jp_virt0 (pc2 := 6) (As := []) (rest := []) rfl rfl rfl (Nat.le_of_ble_eq_true rfl) e2 m3 m4 hc rfl K
theorem b130_6 {r_0 : Nat} {x_1 : Int32} {fs1 : List Value} {P : ipQ} (e2 : h r_0 = some (.inr (9, fs1))) (m3 : c ≤ MC) (m4 : s ≤ MS) (hc : call 94 [(.ref r_0)] h z 0 0 P) (K : ∀ (o : Option Value) (h2 : HP) (z2 : Nat), P o h2 z2 → ip sc call 130 MC MS Q 11 [some (.ref r_0), some (.int x_1)] (o.toList ++ [(.ref r_0)]) h2 z2 c s) : ip sc call 130 MC MS Q 6 [some (.ref r_0), some (.int x_1)] [] h z c s := by
  refine jp_load (pc2 := 7) (n := 0) rfl rfl rfl rfl ?_
  refine jp_load (pc2 := 8) (n := 0) rfl rfl rfl rfl ?_
  exact jp_virt0 (pc2 := 11) (As := []) (rest := [(.ref r_0)]) rfl rfl rfl (Nat.le_of_ble_eq_true rfl) e2 m3 m4 hc rfl K
theorem b130_11 {r_0 : Nat} {x_1 : Int32} {sr_0 : Nat} {sx_1 : Int32} {fs1 : List Value} {P : ipQ} (e2 : h sr_0 = some (.inr (9, fs1))) (m3 : c ≤ MC) (m4 : s ≤ MS) (hc : call 114 [(.ref sr_0), (.int sx_1)] h z 0 0 P) (K : ∀ (o : Option Value) (h2 : HP) (z2 : Nat), P o h2 z2 → ip sc call 130 MC MS Q 14 [some (.ref r_0), some (.int x_1)] (o.toList ++ []) h2 z2 c s) : ip sc call 130 MC MS Q 11 [some (.ref r_0), some (.int x_1)] [(.int sx_1), (.ref sr_0)] h z c s := by
  exact jp_virt0 (pc2 := 14) (As := [(.int sx_1)]) (rest := []) rfl rfl rfl (Nat.le_of_ble_eq_true rfl) e2 m3 m4 hc rfl K
theorem b130_14 {r_0 : Nat} {x_1 : Int32} {sx_0 : Int32}  (K1 : sx_0 = 0 → ip sc call 130 MC MS Q 23 [some (.ref r_0), some (.int x_1)] [] h z c s) (K2 : ¬ (sx_0 = 0) → ip sc call 130 MC MS Q 17 [some (.ref r_0), some (.int x_1)] [] h z c s) : ip sc call 130 MC MS Q 14 [some (.ref r_0), some (.int x_1)] [(.int sx_0)] h z c s := by
  exact jp_if0 (pc2 := 17) rfl rfl K1 K2
theorem b130_17 {r_0 : Nat} {x_1 : Int32}  (K : ip sc call 130 MC MS Q 6 [some (.ref r_0), some (.int (x_1 + 1))] [] h z c s) : ip sc call 130 MC MS Q 17 [some (.ref r_0), some (.int x_1)] [] h z c s := by
  refine jp_iinc (pc2 := 20) (n := 1) (v := x_1 + 1) rfl rfl rfl rfl rfl ?_
  refine ip_goto rfl ?_
  exact K
theorem b130_23 {o_0 : Option Value} {x_1 : Int32} (q1 : Q (some (.int x_1)) h z)  : ip sc call 130 MC MS Q 23 [o_0, some (.int x_1)] [] h z c s := by
  refine jp_load (pc2 := 24) (n := 1) rfl rfl rfl rfl ?_
  exact ip_iret (st := []) rfl rfl rfl q1
theorem b131_0 {r_0 : Nat} {x_1 : Int32} {o_2 : Option Value} {o_3 : Option Value} {fs1 : List Value} {P : ipQ} (e2 : h r_0 = some (.inr (9, fs1))) (m3 : c ≤ MC) (m4 : s ≤ MS) (hc : call 112 [(.ref r_0)] h z 0 0 P) (K : ∀ (o : Option Value) (h2 : HP) (z2 : Nat), P o h2 z2 → ip sc call 131 MC MS Q 4 [some (.ref r_0), some (.int x_1), o_2, o_3] (o.toList ++ []) h2 z2 c s) : ip sc call 131 MC MS Q 0 [some (.ref r_0), some (.int x_1), o_2, o_3] [] h z c s := by
  refine jp_load (pc2 := 1) (n := 0) rfl rfl rfl rfl ?_
  exact jp_virt0 (pc2 := 4) (As := []) (rest := []) rfl rfl rfl (Nat.le_of_ble_eq_true rfl) e2 m3 m4 hc rfl K
theorem b131_4 {r_0 : Nat} {x_1 : Int32} {o_2 : Option Value} {o_3 : Option Value}  (K1 : x_1 < 0 → ip sc call 131 MC MS Q 12 [some (.ref r_0), some (.int x_1), o_2, o_3] [] h z c s) (K2 : ¬ (x_1 < 0) → ip sc call 131 MC MS Q 8 [some (.ref r_0), some (.int x_1), o_2, o_3] [] h z c s) : ip sc call 131 MC MS Q 4 [some (.ref r_0), some (.int x_1), o_2, o_3] [] h z c s := by
  refine jp_load (pc2 := 5) (n := 1) rfl rfl rfl rfl ?_
  exact jp_if0 (pc2 := 8) rfl rfl K1 K2
theorem b131_8 {r_0 : Nat} {x_1 : Int32} {o_2 : Option Value} {o_3 : Option Value}  (K : ip sc call 131 MC MS Q 13 [some (.ref r_0), some (.int x_1), o_2, o_3] [(.int 1)] h z c s) : ip sc call 131 MC MS Q 8 [some (.ref r_0), some (.int x_1), o_2, o_3] [] h z c s := by
  refine jp_con (pc2 := 9) (v := .int 1) rfl rfl rfl ?_
  refine ip_goto rfl ?_
  exact K
theorem b131_12 {r_0 : Nat} {x_1 : Int32} {o_2 : Option Value} {o_3 : Option Value}  (K : ip sc call 131 MC MS Q 13 [some (.ref r_0), some (.int x_1), o_2, o_3] [(.int 0)] h z c s) : ip sc call 131 MC MS Q 12 [some (.ref r_0), some (.int x_1), o_2, o_3] [] h z c s := by
  refine jp_con (pc2 := 13) (v := .int 0) rfl rfl rfl ?_
  exact K
theorem b131_13 {r_0 : Nat} {x_1 : Int32} {o_2 : Option Value} {o_3 : Option Value} {sx_0 : Int32}  (K : ip sc call 131 MC MS Q 16 [some (.ref r_0), some (.int x_1), some (.int sx_0), some (.int 0)] [] h z c s) : ip sc call 131 MC MS Q 13 [some (.ref r_0), some (.int x_1), o_2, o_3] [(.int sx_0)] h z c s := by
  refine jp_store (pc2 := 14) (n := 2) rfl rfl ⟨rfl, rfl⟩ rfl (Nat.le_of_ble_eq_true rfl) ?_
  refine jp_con (pc2 := 15) (v := .int 0) rfl rfl rfl ?_
  refine jp_store (pc2 := 16) (n := 3) rfl rfl ⟨rfl, rfl⟩ rfl (Nat.le_of_ble_eq_true rfl) ?_
  exact K
theorem b131_16 {r_0 : Nat} {x_1 : Int32} {x_2 : Int32} {x_3 : Int32}  (K1 : x_1 < x_3 → ip sc call 131 MC MS Q 40 [some (.ref r_0), some (.int x_1), some (.int x_2), some (.int x_3)] [] h z c s) (K2 : ¬ (x_1 < x_3) → ip sc call 131 MC MS Q 21 [some (.ref r_0), some (.int x_1), some (.int x_2), some (.int x_3)] [] h z c s) : ip sc call 131 MC MS Q 16 [some (.ref r_0), some (.int x_1), some (.int x_2), some (.int x_3)] [] h z c s := by
  refine jp_load (pc2 := 17) (n := 3) rfl rfl rfl rfl ?_
  refine jp_load (pc2 := 18) (n := 1) rfl rfl rfl rfl ?_
  exact jp_icmp (pc2 := 21) rfl rfl K1 K2
theorem b131_21 {r_0 : Nat} {x_1 : Int32} {x_2 : Int32} {x_3 : Int32}  (K1 : x_2 = 0 → ip sc call 131 MC MS Q 40 [some (.ref r_0), some (.int x_1), some (.int x_2), some (.int x_3)] [] h z c s) (K2 : ¬ (x_2 = 0) → ip sc call 131 MC MS Q 25 [some (.ref r_0), some (.int x_1), some (.int x_2), some (.int x_3)] [] h z c s) : ip sc call 131 MC MS Q 21 [some (.ref r_0), some (.int x_1), some (.int x_2), some (.int x_3)] [] h z c s := by
  refine jp_load (pc2 := 22) (n := 2) rfl rfl rfl rfl ?_
  exact jp_if0 (pc2 := 25) rfl rfl K1 K2
theorem b131_25 {r_0 : Nat} {x_1 : Int32} {o_2 : Option Value} {x_3 : Int32} {fs1 : List Value} {P : ipQ} (e2 : h r_0 = some (.inr (9, fs1))) (m3 : c ≤ MC) (m4 : s ≤ MS) (hc : call 94 [(.ref r_0)] h z 0 0 P) (K : ∀ (o : Option Value) (h2 : HP) (z2 : Nat), P o h2 z2 → ip sc call 131 MC MS Q 30 [some (.ref r_0), some (.int x_1), o_2, some (.int x_3)] (o.toList ++ [(.ref r_0)]) h2 z2 c s) : ip sc call 131 MC MS Q 25 [some (.ref r_0), some (.int x_1), o_2, some (.int x_3)] [] h z c s := by
  refine jp_load (pc2 := 26) (n := 0) rfl rfl rfl rfl ?_
  refine jp_load (pc2 := 27) (n := 0) rfl rfl rfl rfl ?_
  exact jp_virt0 (pc2 := 30) (As := []) (rest := [(.ref r_0)]) rfl rfl rfl (Nat.le_of_ble_eq_true rfl) e2 m3 m4 hc rfl K
theorem b131_30 {r_0 : Nat} {x_1 : Int32} {o_2 : Option Value} {x_3 : Int32} {sr_0 : Nat} {sx_1 : Int32} {fs1 : List Value} {P : ipQ} (e2 : h sr_0 = some (.inr (9, fs1))) (m3 : c ≤ MC) (m4 : s ≤ MS) (hc : call 114 [(.ref sr_0), (.int sx_1)] h z 0 0 P) (K : ∀ (o : Option Value) (h2 : HP) (z2 : Nat), P o h2 z2 → ip sc call 131 MC MS Q 33 [some (.ref r_0), some (.int x_1), o_2, some (.int x_3)] (o.toList ++ []) h2 z2 c s) : ip sc call 131 MC MS Q 30 [some (.ref r_0), some (.int x_1), o_2, some (.int x_3)] [(.int sx_1), (.ref sr_0)] h z c s := by
  exact jp_virt0 (pc2 := 33) (As := [(.int sx_1)]) (rest := []) rfl rfl rfl (Nat.le_of_ble_eq_true rfl) e2 m3 m4 hc rfl K
theorem b131_33 {r_0 : Nat} {x_1 : Int32} {o_2 : Option Value} {x_3 : Int32} {sx_0 : Int32}  (K : ip sc call 131 MC MS Q 16 [some (.ref r_0), some (.int x_1), some (.int sx_0), some (.int (x_3 + 1))] [] h z c s) : ip sc call 131 MC MS Q 33 [some (.ref r_0), some (.int x_1), o_2, some (.int x_3)] [(.int sx_0)] h z c s := by
  refine jp_store (pc2 := 34) (n := 2) rfl rfl ⟨rfl, rfl⟩ rfl (Nat.le_of_ble_eq_true rfl) ?_
  refine jp_iinc (pc2 := 37) (n := 3) (v := x_3 + 1) rfl rfl rfl rfl rfl ?_
  refine ip_goto rfl ?_
  exact K
theorem b131_40 {o_0 : Option Value} {o_1 : Option Value} {x_2 : Int32} {o_3 : Option Value} (t1 : narrow .boolean (.int x_2) = .int x_2) (q2 : Q (some (.int x_2)) h z)  : ip sc call 131 MC MS Q 40 [o_0, o_1, some (.int x_2), o_3] [] h z c s := by
  refine jp_load (pc2 := 41) (n := 2) rfl rfl rfl rfl ?_
  exact ip_iret (st := []) rfl rfl t1 q2
theorem b132_0 {r_0 : Nat} {x_1 : Int32} {fs1 : List Value} {P : ipQ} (e2 : h r_0 = some (.inr (9, fs1))) (m3 : c ≤ MC) (m4 : s ≤ MS) (hc : call 131 [(.ref r_0), (.int x_1)] h z 0 0 P) (K : ∀ (o : Option Value) (h2 : HP) (z2 : Nat), P o h2 z2 → ip sc call 132 MC MS Q 5 [some (.ref r_0), some (.int x_1)] (o.toList ++ []) h2 z2 c s) : ip sc call 132 MC MS Q 0 [some (.ref r_0), some (.int x_1)] [] h z c s := by
  refine jp_load (pc2 := 1) (n := 0) rfl rfl rfl rfl ?_
  refine jp_load (pc2 := 2) (n := 1) rfl rfl rfl rfl ?_
  exact jp_virt0 (pc2 := 5) (As := [(.int x_1)]) (rest := []) rfl rfl rfl (Nat.le_of_ble_eq_true rfl) e2 m3 m4 hc rfl K
theorem b132_5 {r_0 : Nat} {o_1 : Option Value} {sx_0 : Int32}  (K1 : sx_0 = 0 → ip sc call 132 MC MS Q 39 [some (.ref r_0), o_1] [] h z c s) (K2 : ¬ (sx_0 = 0) → ip sc call 132 MC MS Q 8 [some (.ref r_0), o_1] [] h z c s) : ip sc call 132 MC MS Q 5 [some (.ref r_0), o_1] [(.int sx_0)] h z c s := by
  exact jp_if0 (pc2 := 8) rfl rfl K1 K2
theorem b132_8 {r_0 : Nat} {o_1 : Option Value} {fs1 : List Value} {v_fs1_6 : Int32} {v_fs1_7 : Int32} {v_fs1_8 : Int32} {v_fs1_9 : Int32} {v_fs1_10 : Int32} {v_fs1_11 : Int32} {P : ipQ} (e2 : h r_0 = some (.inr (9, fs1))) (e3 : fs1[6]? = some (.int v_fs1_6)) (e4 : fs1[7]? = some (.int v_fs1_7)) (e5 : fs1[8]? = some (.int v_fs1_8)) (e6 : fs1[9]? = some (.int v_fs1_9)) (e7 : fs1[10]? = some (.int v_fs1_10)) (e8 : fs1[11]? = some (.int v_fs1_11)) (m9 : c ≤ MC) (m10 : s ≤ MS) (hc : call 128 [(.ref r_0), (.int v_fs1_6), (.int v_fs1_7), (.int v_fs1_8), (.int v_fs1_9), (.int v_fs1_10), (.int v_fs1_11)] h z 0 0 P) (K : ∀ (o : Option Value) (h2 : HP) (z2 : Nat), P o h2 z2 → ip sc call 132 MC MS Q 36 [some (.ref r_0), o_1] (o.toList ++ []) h2 z2 c s) : ip sc call 132 MC MS Q 8 [some (.ref r_0), o_1] [] h z c s := by
  refine jp_load (pc2 := 9) (n := 0) rfl rfl rfl rfl ?_
  refine jp_load (pc2 := 10) (n := 0) rfl rfl rfl rfl ?_
  refine jp_getf (pc2 := 13) rfl rfl e2 e3 ?_
  refine jp_load (pc2 := 14) (n := 0) rfl rfl rfl rfl ?_
  refine jp_getf (pc2 := 17) rfl rfl e2 e4 ?_
  refine jp_load (pc2 := 18) (n := 0) rfl rfl rfl rfl ?_
  refine jp_getf (pc2 := 21) rfl rfl e2 e5 ?_
  refine jp_load (pc2 := 22) (n := 0) rfl rfl rfl rfl ?_
  refine jp_getf (pc2 := 25) rfl rfl e2 e6 ?_
  refine jp_load (pc2 := 26) (n := 0) rfl rfl rfl rfl ?_
  refine jp_getf (pc2 := 29) rfl rfl e2 e7 ?_
  refine jp_load (pc2 := 30) (n := 0) rfl rfl rfl rfl ?_
  refine jp_getf (pc2 := 33) rfl rfl e2 e8 ?_
  exact jp_virt0 (pc2 := 36) (As := [(.int v_fs1_6), (.int v_fs1_7), (.int v_fs1_8), (.int v_fs1_9), (.int v_fs1_10), (.int v_fs1_11)]) (rest := []) rfl rfl rfl (Nat.le_of_ble_eq_true rfl) e2 m9 m10 hc rfl K
theorem b132_36 {o_0 : Option Value} {o_1 : Option Value} {sx_0 : Int32}  (K : ip sc call 132 MC MS Q 40 [o_0, o_1] [(.int sx_0)] h z c s) : ip sc call 132 MC MS Q 36 [o_0, o_1] [(.int sx_0)] h z c s := by
  refine ip_goto rfl ?_
  exact K
theorem b132_39 {o_0 : Option Value} {o_1 : Option Value}  (K : ip sc call 132 MC MS Q 40 [o_0, o_1] [(.int ((-1)))] h z c s) : ip sc call 132 MC MS Q 39 [o_0, o_1] [] h z c s := by
  refine jp_con (pc2 := 40) (v := .int (-1)) rfl rfl rfl ?_
  exact K
theorem b132_40 {o_0 : Option Value} {o_1 : Option Value} {sx_0 : Int32} (q1 : Q (some (.int sx_0)) h z)  : ip sc call 132 MC MS Q 40 [o_0, o_1] [(.int sx_0)] h z c s := by
  exact ip_iret (st := []) rfl rfl rfl q1
theorem b133_0 {r_0 : Nat} {x_1 : Int32} {x_2 : Int32} {P : ipQ} (m1 : c ≤ MC) (m2 : s ≤ MS) (hc : call 95 [(.int x_2), (.int 6)] h z 0 0 P) (K : ∀ (o : Option Value) (h2 : HP) (z2 : Nat), P o h2 z2 → ip sc call 133 MC MS Q 6 [some (.ref r_0), some (.int x_1), some (.int x_2)] (o.toList ++ []) h2 z2 c s) : ip sc call 133 MC MS Q 0 [some (.ref r_0), some (.int x_1), some (.int x_2)] [] h z c s := by
  refine jp_load (pc2 := 1) (n := 2) rfl rfl rfl rfl ?_
  refine jp_con (pc2 := 3) (v := .int 6) rfl rfl rfl ?_
  exact jp_stat0 (pc2 := 6) (As := [(.int x_2), (.int 6)]) (rest := []) rfl rfl rfl (Nat.le_of_ble_eq_true rfl) m1 m2 (by decide) hc rfl K
theorem b133_6 {r_0 : Nat} {x_1 : Int32} {x_2 : Int32} {sx_0 : Int32}  (K1 : sx_0 = 0 → ip sc call 133 MC MS Q 17 [some (.ref r_0), some (.int x_1), some (.int x_2)] [] h z c s) (K2 : ¬ (sx_0 = 0) → ip sc call 133 MC MS Q 9 [some (.ref r_0), some (.int x_1), some (.int x_2)] [] h z c s) : ip sc call 133 MC MS Q 6 [some (.ref r_0), some (.int x_1), some (.int x_2)] [(.int sx_0)] h z c s := by
  exact jp_if0 (pc2 := 9) rfl rfl K1 K2
theorem b133_9 {r_0 : Nat} {x_1 : Int32} {x_2 : Int32} {fs1 : List Value} {P : ipQ} (e2 : h r_0 = some (.inr (9, fs1))) (m3 : c ≤ MC) (m4 : s ≤ MS) (hc : call 131 [(.ref r_0), (.int x_1)] h z 0 0 P) (K : ∀ (o : Option Value) (h2 : HP) (z2 : Nat), P o h2 z2 → ip sc call 133 MC MS Q 14 [some (.ref r_0), some (.int x_1), some (.int x_2)] (o.toList ++ []) h2 z2 c s) : ip sc call 133 MC MS Q 9 [some (.ref r_0), some (.int x_1), some (.int x_2)] [] h z c s := by
  refine jp_load (pc2 := 10) (n := 0) rfl rfl rfl rfl ?_
  refine jp_load (pc2 := 11) (n := 1) rfl rfl rfl rfl ?_
  exact jp_virt0 (pc2 := 14) (As := [(.int x_1)]) (rest := []) rfl rfl rfl (Nat.le_of_ble_eq_true rfl) e2 m3 m4 hc rfl K
theorem b133_14 {r_0 : Nat} {o_1 : Option Value} {x_2 : Int32} {sx_0 : Int32}  (K1 : ¬ sx_0 = 0 → ip sc call 133 MC MS Q 19 [some (.ref r_0), o_1, some (.int x_2)] [] h z c s) (K2 : ¬ (¬ sx_0 = 0) → ip sc call 133 MC MS Q 17 [some (.ref r_0), o_1, some (.int x_2)] [] h z c s) : ip sc call 133 MC MS Q 14 [some (.ref r_0), o_1, some (.int x_2)] [(.int sx_0)] h z c s := by
  exact jp_if0 (pc2 := 17) rfl rfl K1 K2
theorem b133_17 {o_0 : Option Value} {o_1 : Option Value} {o_2 : Option Value} (q1 : Q (some (.int ((-1)))) h z)  : ip sc call 133 MC MS Q 17 [o_0, o_1, o_2] [] h z c s := by
  refine jp_con (pc2 := 18) (v := .int (-1)) rfl rfl rfl ?_
  exact ip_iret (st := []) rfl rfl rfl q1
theorem b133_19 {r_0 : Nat} {o_1 : Option Value} {x_2 : Int32} {tgt : Nat} (t1 : ipTab 20 61 0 4 #[36, 41, 46, 51, 56] x_2 = some tgt) (K : ip sc call 133 MC MS Q tgt [some (.ref r_0), o_1, some (.int x_2)] [] h z c s) : ip sc call 133 MC MS Q 19 [some (.ref r_0), o_1, some (.int x_2)] [] h z c s := by
  refine jp_load (pc2 := 20) (n := 2) rfl rfl rfl rfl ?_
  exact ip_tab rfl t1 K
theorem b133_56 {r_0 : Nat} {o_1 : Option Value} {o_2 : Option Value} {fs1 : List Value} {v_fs1_6 : Int32} (e2 : h r_0 = some (.inr (9, fs1))) (e3 : fs1[6]? = some (.int v_fs1_6)) (q4 : Q (some (.int v_fs1_6)) h z)  : ip sc call 133 MC MS Q 56 [some (.ref r_0), o_1, o_2] [] h z c s := by
  refine jp_load (pc2 := 57) (n := 0) rfl rfl rfl rfl ?_
  refine jp_getf (pc2 := 60) rfl rfl e2 e3 ?_
  exact ip_iret (st := []) rfl rfl rfl q4
theorem b133_61 {r_0 : Nat} {o_1 : Option Value} {o_2 : Option Value} {fs1 : List Value} {v_fs1_7 : Int32} (e2 : h r_0 = some (.inr (9, fs1))) (e3 : fs1[7]? = some (.int v_fs1_7)) (q4 : Q (some (.int v_fs1_7)) h z)  : ip sc call 133 MC MS Q 61 [some (.ref r_0), o_1, o_2] [] h z c s := by
  refine jp_load (pc2 := 62) (n := 0) rfl rfl rfl rfl ?_
  refine jp_getf (pc2 := 65) rfl rfl e2 e3 ?_
  exact ip_iret (st := []) rfl rfl rfl q4
theorem b133_66 {r_0 : Nat} {o_1 : Option Value} {o_2 : Option Value} {fs1 : List Value} {v_fs1_8 : Int32} (e2 : h r_0 = some (.inr (9, fs1))) (e3 : fs1[8]? = some (.int v_fs1_8)) (q4 : Q (some (.int v_fs1_8)) h z)  : ip sc call 133 MC MS Q 66 [some (.ref r_0), o_1, o_2] [] h z c s := by
  refine jp_load (pc2 := 67) (n := 0) rfl rfl rfl rfl ?_
  refine jp_getf (pc2 := 70) rfl rfl e2 e3 ?_
  exact ip_iret (st := []) rfl rfl rfl q4
theorem b133_71 {r_0 : Nat} {o_1 : Option Value} {o_2 : Option Value} {fs1 : List Value} {v_fs1_9 : Int32} (e2 : h r_0 = some (.inr (9, fs1))) (e3 : fs1[9]? = some (.int v_fs1_9)) (q4 : Q (some (.int v_fs1_9)) h z)  : ip sc call 133 MC MS Q 71 [some (.ref r_0), o_1, o_2] [] h z c s := by
  refine jp_load (pc2 := 72) (n := 0) rfl rfl rfl rfl ?_
  refine jp_getf (pc2 := 75) rfl rfl e2 e3 ?_
  exact ip_iret (st := []) rfl rfl rfl q4
theorem b133_76 {r_0 : Nat} {o_1 : Option Value} {o_2 : Option Value} {fs1 : List Value} {v_fs1_10 : Int32} (e2 : h r_0 = some (.inr (9, fs1))) (e3 : fs1[10]? = some (.int v_fs1_10)) (q4 : Q (some (.int v_fs1_10)) h z)  : ip sc call 133 MC MS Q 76 [some (.ref r_0), o_1, o_2] [] h z c s := by
  refine jp_load (pc2 := 77) (n := 0) rfl rfl rfl rfl ?_
  refine jp_getf (pc2 := 80) rfl rfl e2 e3 ?_
  exact ip_iret (st := []) rfl rfl rfl q4
theorem b133_81 {r_0 : Nat} {o_1 : Option Value} {o_2 : Option Value} {fs1 : List Value} {v_fs1_11 : Int32} (e2 : h r_0 = some (.inr (9, fs1))) (e3 : fs1[11]? = some (.int v_fs1_11)) (q4 : Q (some (.int v_fs1_11)) h z)  : ip sc call 133 MC MS Q 81 [some (.ref r_0), o_1, o_2] [] h z c s := by
  refine jp_load (pc2 := 82) (n := 0) rfl rfl rfl rfl ?_
  refine jp_getf (pc2 := 85) rfl rfl e2 e3 ?_
  exact ip_iret (st := []) rfl rfl rfl q4
theorem b134_0 {r_0 : Nat} {fs1 : List Value} {q_fs1_0 : Nat} {n4 : Nat} {f5 : Nat → Int32} (e2 : h r_0 = some (.inr (9, fs1))) (e3 : fs1[0]? = some (.ref q_fs1_0)) (e6 : h q_fs1_0 = some (.inl (0, n4, .inl f5))) (b7 : vp_in (0 : Int32) n4) (K1 : ¬ (f5 (0 : Int32).toNatClampNeg) = 0 → ip sc call 134 MC MS Q 11 [some (.ref r_0)] [] h z c s) (K2 : ¬ (¬ (f5 (0 : Int32).toNatClampNeg) = 0) → ip sc call 134 MC MS Q 9 [some (.ref r_0)] [] h z c s) : ip sc call 134 MC MS Q 0 [some (.ref r_0)] [] h z c s := by
  refine jp_load (pc2 := 1) (n := 0) rfl rfl rfl rfl ?_
  refine jp_getf (pc2 := 4) rfl rfl e2 e3 ?_
  refine jp_con (pc2 := 5) (v := .int 0) rfl rfl rfl ?_
  refine jp_iald (pc2 := 6) rfl rfl e6 b7 ?_
  exact jp_if0 (pc2 := 9) rfl rfl K1 K2
theorem b134_9 {o_0 : Option Value} (q1 : Q (some (.int ((-1)))) h z)  : ip sc call 134 MC MS Q 9 [o_0] [] h z c s := by
  refine jp_con (pc2 := 10) (v := .int (-1)) rfl rfl rfl ?_
  exact ip_iret (st := []) rfl rfl rfl q1
theorem b134_11 {r_0 : Nat} {fs1 : List Value} {q_fs1_0 : Nat} {n4 : Nat} {f5 : Nat → Int32} (e2 : h r_0 = some (.inr (9, fs1))) (e3 : fs1[0]? = some (.ref q_fs1_0)) (e6 : h q_fs1_0 = some (.inl (0, n4, .inl f5))) (b7 : vp_in (0 : Int32) n4) (n8 : r_0 ≠ q_fs1_0) (q9 : Q (some (.int (((upd f5 (0 : Int32).toNatClampNeg ((f5 (0 : Int32).toNatClampNeg) - 1))) (0 : Int32).toNatClampNeg))) (hup h q_fs1_0 (.inl (0, n4, .inl (upd f5 (0 : Int32).toNatClampNeg ((f5 (0 : Int32).toNatClampNeg) - 1))))) z)  : ip sc call 134 MC MS Q 11 [some (.ref r_0)] [] h z c s := by
  refine jp_load (pc2 := 12) (n := 0) rfl rfl rfl rfl ?_
  refine jp_getf (pc2 := 15) rfl rfl e2 e3 ?_
  refine jp_con (pc2 := 16) (v := .int 0) rfl rfl rfl ?_
  refine jp_dup2 (pc2 := 17) rfl rfl rfl rfl ?_
  refine jp_iald (pc2 := 18) rfl rfl e6 b7 ?_
  refine jp_con (pc2 := 19) (v := .int 1) rfl rfl rfl ?_
  refine jp_bin (pc2 := 20) (v := (f5 (0 : Int32).toNatClampNeg) - 1) rfl rfl rfl ?_
  refine jp_iast (pc2 := 21) rfl rfl e6 b7 ?_
  refine jp_load (pc2 := 22) (n := 0) rfl rfl rfl rfl ?_
  refine jp_getf (pc2 := 25) rfl rfl (hup_ne n8 e2) e3 ?_
  refine jp_con (pc2 := 26) (v := .int 0) rfl rfl rfl ?_
  refine jp_iald (pc2 := 27) rfl rfl hup_eq b7 ?_
  exact ip_iret (st := []) rfl rfl rfl q9
theorem b135_0 {r_0 : Nat} {x_1 : Int32} {x_2 : Int32} {fs1 : List Value} {q_fs1_0 : Nat} {n4 : Nat} {f5 : Nat → Int32} {P : ipQ} (e2 : h r_0 = some (.inr (9, fs1))) (e3 : fs1[0]? = some (.ref q_fs1_0)) (e6 : h q_fs1_0 = some (.inl (0, n4, .inl f5))) (b7 : vp_in (0 : Int32) n4) (m8 : c ≤ MC) (m9 : s ≤ MS) (hc : call 95 [(.int x_1), (.int (f5 (0 : Int32).toNatClampNeg))] h z 0 0 P) (K : ∀ (o : Option Value) (h2 : HP) (z2 : Nat), P o h2 z2 → ip sc call 135 MC MS Q 10 [some (.ref r_0), some (.int x_1), some (.int x_2)] (o.toList ++ []) h2 z2 c s) : ip sc call 135 MC MS Q 0 [some (.ref r_0), some (.int x_1), some (.int x_2)] [] h z c s := by
  refine jp_load (pc2 := 1) (n := 1) rfl rfl rfl rfl ?_
  refine jp_load (pc2 := 2) (n := 0) rfl rfl rfl rfl ?_
  refine jp_getf (pc2 := 5) rfl rfl e2 e3 ?_
  refine jp_con (pc2 := 6) (v := .int 0) rfl rfl rfl ?_
  refine jp_iald (pc2 := 7) rfl rfl e6 b7 ?_
  exact jp_stat0 (pc2 := 10) (As := [(.int x_1), (.int (f5 (0 : Int32).toNatClampNeg))]) (rest := []) rfl rfl rfl (Nat.le_of_ble_eq_true rfl) m8 m9 (by decide) hc rfl K
theorem b135_10 {r_0 : Nat} {x_1 : Int32} {x_2 : Int32} {sx_0 : Int32}  (K1 : sx_0 = 0 → ip sc call 135 MC MS Q 40 [some (.ref r_0), some (.int x_1), some (.int x_2)] [] h z c s) (K2 : ¬ (sx_0 = 0) → ip sc call 135 MC MS Q 13 [some (.ref r_0), some (.int x_1), some (.int x_2)] [] h z c s) : ip sc call 135 MC MS Q 10 [some (.ref r_0), some (.int x_1), some (.int x_2)] [(.int sx_0)] h z c s := by
  exact jp_if0 (pc2 := 13) rfl rfl K1 K2
theorem b135_13 {r_0 : Nat} {x_1 : Int32} {x_2 : Int32} {P : ipQ} (m1 : c ≤ MC) (m2 : s ≤ MS) (hc : call 95 [(.int x_2), (.int 6)] h z 0 0 P) (K : ∀ (o : Option Value) (h2 : HP) (z2 : Nat), P o h2 z2 → ip sc call 135 MC MS Q 19 [some (.ref r_0), some (.int x_1), some (.int x_2)] (o.toList ++ []) h2 z2 c s) : ip sc call 135 MC MS Q 13 [some (.ref r_0), some (.int x_1), some (.int x_2)] [] h z c s := by
  refine jp_load (pc2 := 14) (n := 2) rfl rfl rfl rfl ?_
  refine jp_con (pc2 := 16) (v := .int 6) rfl rfl rfl ?_
  exact jp_stat0 (pc2 := 19) (As := [(.int x_2), (.int 6)]) (rest := []) rfl rfl rfl (Nat.le_of_ble_eq_true rfl) m1 m2 (by decide) hc rfl K
theorem b135_19 {r_0 : Nat} {x_1 : Int32} {x_2 : Int32} {sx_0 : Int32}  (K1 : sx_0 = 0 → ip sc call 135 MC MS Q 40 [some (.ref r_0), some (.int x_1), some (.int x_2)] [] h z c s) (K2 : ¬ (sx_0 = 0) → ip sc call 135 MC MS Q 22 [some (.ref r_0), some (.int x_1), some (.int x_2)] [] h z c s) : ip sc call 135 MC MS Q 19 [some (.ref r_0), some (.int x_1), some (.int x_2)] [(.int sx_0)] h z c s := by
  exact jp_if0 (pc2 := 22) rfl rfl K1 K2
theorem b135_22 {r_0 : Nat} {x_1 : Int32} {x_2 : Int32} {fs1 : List Value} {q_fs1_0 : Nat} {n4 : Nat} {f5 : Nat → Int32} (e2 : h r_0 = some (.inr (9, fs1))) (e3 : fs1[0]? = some (.ref q_fs1_0)) (e6 : h q_fs1_0 = some (.inl (0, n4, .inl f5))) (b7 : vp_in ((8020 + (6 * x_1)) + x_2) n4) (K : ip sc call 135 MC MS Q 41 [some (.ref r_0), some (.int x_1), some (.int x_2)] [(.int (f5 ((8020 + (6 * x_1)) + x_2).toNatClampNeg))] h z c s) : ip sc call 135 MC MS Q 22 [some (.ref r_0), some (.int x_1), some (.int x_2)] [] h z c s := by
  refine jp_load (pc2 := 23) (n := 0) rfl rfl rfl rfl ?_
  refine jp_getf (pc2 := 26) rfl rfl e2 e3 ?_
  refine jp_con (pc2 := 29) (v := .int 8020) rfl rfl rfl ?_
  refine jp_con (pc2 := 31) (v := .int 6) rfl rfl rfl ?_
  refine jp_load (pc2 := 32) (n := 1) rfl rfl rfl rfl ?_
  refine jp_bin (pc2 := 33) (v := 6 * x_1) rfl rfl rfl ?_
  refine jp_bin (pc2 := 34) (v := 8020 + (6 * x_1)) rfl rfl rfl ?_
  refine jp_load (pc2 := 35) (n := 2) rfl rfl rfl rfl ?_
  refine jp_bin (pc2 := 36) (v := (8020 + (6 * x_1)) + x_2) rfl rfl rfl ?_
  refine jp_iald (pc2 := 37) rfl rfl e6 b7 ?_
  refine ip_goto rfl ?_
  exact K
theorem b135_40 {o_0 : Option Value} {o_1 : Option Value} {o_2 : Option Value}  (K : ip sc call 135 MC MS Q 41 [o_0, o_1, o_2] [(.int ((-1)))] h z c s) : ip sc call 135 MC MS Q 40 [o_0, o_1, o_2] [] h z c s := by
  refine jp_con (pc2 := 41) (v := .int (-1)) rfl rfl rfl ?_
  exact K
theorem b135_41 {o_0 : Option Value} {o_1 : Option Value} {o_2 : Option Value} {sx_0 : Int32} (q1 : Q (some (.int sx_0)) h z)  : ip sc call 135 MC MS Q 41 [o_0, o_1, o_2] [(.int sx_0)] h z c s := by
  exact ip_iret (st := []) rfl rfl rfl q1
set_option maxRecDepth 100000 in
theorem b136_0 {r_0 : Nat} {x_1 : Int32} {x_2 : Int32} {o_3 : Option Value} {o_4 : Option Value} {o_5 : Option Value} {o_6 : Option Value} {o_7 : Option Value} {o_8 : Option Value} {o_9 : Option Value} {o_10 : Option Value} {o_11 : Option Value} {fs1 : List Value} {P : ipQ} (e2 : h r_0 = some (.inr (9, fs1))) (m3 : c ≤ MC) (m4 : s ≤ MS) (hc : call 107 [(.ref r_0), (.int x_2)] h z 0 0 P) (K : ∀ (o : Option Value) (h2 : HP) (z2 : Nat), P o h2 z2 → ip sc call 136 MC MS Q 5 [some (.ref r_0), some (.int x_1), some (.int x_2), o_3, o_4, o_5, o_6, o_7, o_8, o_9, o_10, o_11] (o.toList ++ []) h2 z2 c s) : ip sc call 136 MC MS Q 0 [some (.ref r_0), some (.int x_1), some (.int x_2), o_3, o_4, o_5, o_6, o_7, o_8, o_9, o_10, o_11] [] h z c s := by
  refine jp_load (pc2 := 1) (n := 0) rfl rfl rfl rfl ?_
  refine jp_load (pc2 := 2) (n := 2) rfl rfl rfl rfl ?_
  exact jp_virt0 (pc2 := 5) (As := [(.int x_2)]) (rest := []) rfl rfl rfl (Nat.le_of_ble_eq_true rfl) e2 m3 m4 hc rfl K
set_option maxRecDepth 100000 in
theorem b136_5 {r_0 : Nat} {x_1 : Int32} {x_2 : Int32} {o_3 : Option Value} {o_4 : Option Value} {o_5 : Option Value} {o_6 : Option Value} {o_7 : Option Value} {o_8 : Option Value} {o_9 : Option Value} {o_10 : Option Value} {o_11 : Option Value}  (K : ip sc call 136 MC MS Q 7 [some (.ref r_0), some (.int x_1), some (.int x_2), some (.int 0), o_4, o_5, o_6, o_7, o_8, o_9, o_10, o_11] [] h z c s) : ip sc call 136 MC MS Q 5 [some (.ref r_0), some (.int x_1), some (.int x_2), o_3, o_4, o_5, o_6, o_7, o_8, o_9, o_10, o_11] [] h z c s := by
  refine jp_con (pc2 := 6) (v := .int 0) rfl rfl rfl ?_
  refine jp_store (pc2 := 7) (n := 3) rfl rfl ⟨rfl, rfl⟩ rfl (Nat.le_of_ble_eq_true rfl) ?_
  exact K
set_option maxRecDepth 100000 in
theorem b136_7 {r_0 : Nat} {x_1 : Int32} {x_2 : Int32} {x_3 : Int32} {o_4 : Option Value} {o_5 : Option Value} {o_6 : Option Value} {o_7 : Option Value} {o_8 : Option Value} {o_9 : Option Value} {o_10 : Option Value} {o_11 : Option Value} {fs1 : List Value} {q_fs1_0 : Nat} {n4 : Nat} {f5 : Nat → Int32} (e2 : h r_0 = some (.inr (9, fs1))) (e3 : fs1[0]? = some (.ref q_fs1_0)) (e6 : h q_fs1_0 = some (.inl (0, n4, .inl f5))) (b7 : vp_in (x_1 + 0) n4) (K1 : (f5 (x_1 + 0).toNatClampNeg) ≤ x_3 → ip sc call 136 MC MS Q 32 [some (.ref r_0), some (.int x_1), some (.int x_2), some (.int x_3), o_4, o_5, o_6, o_7, o_8, o_9, o_10, o_11] [] h z c s) (K2 : ¬ ((f5 (x_1 + 0).toNatClampNeg) ≤ x_3) → ip sc call 136 MC MS Q 19 [some (.ref r_0), some (.int x_1), some (.int x_2), some (.int x_3), o_4, o_5, o_6, o_7, o_8, o_9, o_10, o_11] [] h z c s) : ip sc call 136 MC MS Q 7 [some (.ref r_0), some (.int x_1), some (.int x_2), some (.int x_3), o_4, o_5, o_6, o_7, o_8, o_9, o_10, o_11] [] h z c s := by
  refine jp_load (pc2 := 8) (n := 3) rfl rfl rfl rfl ?_
  refine jp_load (pc2 := 9) (n := 0) rfl rfl rfl rfl ?_
  refine jp_getf (pc2 := 12) rfl rfl e2 e3 ?_
  refine jp_load (pc2 := 13) (n := 1) rfl rfl rfl rfl ?_
  refine jp_con (pc2 := 14) (v := .int 0) rfl rfl rfl ?_
  refine jp_bin (pc2 := 15) (v := x_1 + 0) rfl rfl rfl ?_
  refine jp_iald (pc2 := 16) rfl rfl e6 b7 ?_
  exact jp_icmp (pc2 := 19) rfl rfl K1 K2
set_option maxRecDepth 100000 in
theorem b136_19 {r_0 : Nat} {x_1 : Int32} {x_2 : Int32} {x_3 : Int32} {o_4 : Option Value} {o_5 : Option Value} {o_6 : Option Value} {o_7 : Option Value} {o_8 : Option Value} {o_9 : Option Value} {o_10 : Option Value} {o_11 : Option Value} {fs1 : List Value} {q_fs1_12 : Nat} {n4 : Nat} {f5 : Nat → Int32} (e2 : h r_0 = some (.inr (9, fs1))) (e3 : fs1[12]? = some (.ref q_fs1_12)) (e6 : h q_fs1_12 = some (.inl (0, n4, .inl f5))) (b7 : vp_in x_3 n4) (K : ip sc call 136 MC MS Q 7 [some (.ref r_0), some (.int x_1), some (.int x_2), some (.int (x_3 + 1)), o_4, o_5, o_6, o_7, o_8, o_9, o_10, o_11] [] (hup h q_fs1_12 (.inl (0, n4, .inl (upd f5 x_3.toNatClampNeg ((-1)))))) z c s) : ip sc call 136 MC MS Q 19 [some (.ref r_0), some (.int x_1), some (.int x_2), some (.int x_3), o_4, o_5, o_6, o_7, o_8, o_9, o_10, o_11] [] h z c s := by
  refine jp_load (pc2 := 20) (n := 0) rfl rfl rfl rfl ?_
  refine jp_getf (pc2 := 23) rfl rfl e2 e3 ?_
  refine jp_load (pc2 := 24) (n := 3) rfl rfl rfl rfl ?_
  refine jp_con (pc2 := 25) (v := .int (-1)) rfl rfl rfl ?_
  refine jp_iast (pc2 := 26) rfl rfl e6 b7 ?_
  refine jp_iinc (pc2 := 29) (n := 3) (v := x_3 + 1) rfl rfl rfl rfl rfl ?_
  refine ip_goto rfl ?_
  exact K
set_option maxRecDepth 100000 in
theorem b136_32 {r_0 : Nat} {x_1 : Int32} {x_2 : Int32} {o_3 : Option Value} {o_4 : Option Value} {o_5 : Option Value} {o_6 : Option Value} {o_7 : Option Value} {o_8 : Option Value} {o_9 : Option Value} {o_10 : Option Value} {o_11 : Option Value}  (K : ip sc call 136 MC MS Q 44 [some (.ref r_0), some (.int x_1), some (.int x_2), some (.int 0), some (.int (x_1 + 132)), some (.int 0), o_6, o_7, o_8, o_9, o_10, o_11] [] h z c s) : ip sc call 136 MC MS Q 32 [some (.ref r_0), some (.int x_1), some (.int x_2), o_3, o_4, o_5, o_6, o_7, o_8, o_9, o_10, o_11] [] h z c s := by
  refine jp_con (pc2 := 33) (v := .int 0) rfl rfl rfl ?_
  refine jp_store (pc2 := 34) (n := 3) rfl rfl ⟨rfl, rfl⟩ rfl (Nat.le_of_ble_eq_true rfl) ?_
  refine jp_load (pc2 := 35) (n := 1) rfl rfl rfl rfl ?_
  refine jp_con (pc2 := 38) (v := .int 132) rfl rfl rfl ?_
  refine jp_bin (pc2 := 39) (v := x_1 + 132) rfl rfl rfl ?_
  refine jp_store (pc2 := 41) (n := 4) rfl rfl ⟨rfl, rfl⟩ rfl (Nat.le_of_ble_eq_true rfl) ?_
  refine jp_con (pc2 := 42) (v := .int 0) rfl rfl rfl ?_
  refine jp_store (pc2 := 44) (n := 5) rfl rfl ⟨rfl, rfl⟩ rfl (Nat.le_of_ble_eq_true rfl) ?_
  exact K
set_option maxRecDepth 100000 in
theorem b136_44 {r_0 : Nat} {x_1 : Int32} {x_2 : Int32} {x_3 : Int32} {x_4 : Int32} {x_5 : Int32} {o_6 : Option Value} {o_7 : Option Value} {o_8 : Option Value} {o_9 : Option Value} {o_10 : Option Value} {o_11 : Option Value} {fs1 : List Value} {q_fs1_0 : Nat} {n4 : Nat} {f5 : Nat → Int32} (e2 : h r_0 = some (.inr (9, fs1))) (e3 : fs1[0]? = some (.ref q_fs1_0)) (e6 : h q_fs1_0 = some (.inl (0, n4, .inl f5))) (b7 : vp_in (x_1 + 1) n4) (K1 : (f5 (x_1 + 1).toNatClampNeg) ≤ x_5 → ip sc call 136 MC MS Q 265 [some (.ref r_0), some (.int x_1), some (.int x_2), some (.int x_3), some (.int x_4), some (.int x_5), o_6, o_7, o_8, o_9, o_10, o_11] [] h z c s) (K2 : ¬ ((f5 (x_1 + 1).toNatClampNeg) ≤ x_5) → ip sc call 136 MC MS Q 57 [some (.ref r_0), some (.int x_1), some (.int x_2), some (.int x_3), some (.int x_4), some (.int x_5), o_6, o_7, o_8, o_9, o_10, o_11] [] h z c s) : ip sc call 136 MC MS Q 44 [some (.ref r_0), some (.int x_1), some (.int x_2), some (.int x_3), some (.int x_4), some (.int x_5), o_6, o_7, o_8, o_9, o_10, o_11] [] h z c s := by
  refine jp_load (pc2 := 46) (n := 5) rfl rfl rfl rfl ?_
  refine jp_load (pc2 := 47) (n := 0) rfl rfl rfl rfl ?_
  refine jp_getf (pc2 := 50) rfl rfl e2 e3 ?_
  refine jp_load (pc2 := 51) (n := 1) rfl rfl rfl rfl ?_
  refine jp_con (pc2 := 52) (v := .int 1) rfl rfl rfl ?_
  refine jp_bin (pc2 := 53) (v := x_1 + 1) rfl rfl rfl ?_
  refine jp_iald (pc2 := 54) rfl rfl e6 b7 ?_
  exact jp_icmp (pc2 := 57) rfl rfl K1 K2
set_option maxRecDepth 100000 in
theorem b136_57 {r_0 : Nat} {x_1 : Int32} {x_2 : Int32} {x_3 : Int32} {x_4 : Int32} {x_5 : Int32} {o_6 : Option Value} {o_7 : Option Value} {o_8 : Option Value} {o_9 : Option Value} {o_10 : Option Value} {o_11 : Option Value}  (K : ip sc call 136 MC MS Q 63 [some (.ref r_0), some (.int x_1), some (.int x_2), some (.int x_3), some (.int x_4), some (.int x_5), some (.int 0), some (.int 0), o_8, o_9, o_10, o_11] [] h z c s) : ip sc call 136 MC MS Q 57 [some (.ref r_0), some (.int x_1), some (.int x_2), some (.int x_3), some (.int x_4), some (.int x_5), o_6, o_7, o_8, o_9, o_10, o_11] [] h z c s := by
  refine jp_con (pc2 := 58) (v := .int 0) rfl rfl rfl ?_
  refine jp_store (pc2 := 60) (n := 6) rfl rfl ⟨rfl, rfl⟩ rfl (Nat.le_of_ble_eq_true rfl) ?_
  refine jp_con (pc2 := 61) (v := .int 0) rfl rfl rfl ?_
  refine jp_store (pc2 := 63) (n := 7) rfl rfl ⟨rfl, rfl⟩ rfl (Nat.le_of_ble_eq_true rfl) ?_
  exact K
set_option maxRecDepth 100000 in
theorem b136_63 {r_0 : Nat} {x_1 : Int32} {x_2 : Int32} {x_3 : Int32} {x_4 : Int32} {x_5 : Int32} {x_6 : Int32} {x_7 : Int32} {o_8 : Option Value} {o_9 : Option Value} {o_10 : Option Value} {o_11 : Option Value} {fs1 : List Value} {q_fs1_0 : Nat} {n4 : Nat} {f5 : Nat → Int32} (e2 : h r_0 = some (.inr (9, fs1))) (e3 : fs1[0]? = some (.ref q_fs1_0)) (e6 : h q_fs1_0 = some (.inl (0, n4, .inl f5))) (b7 : vp_in ((x_1 + 36) + x_5) n4) (K1 : (f5 ((x_1 + 36) + x_5).toNatClampNeg) ≤ x_7 → ip sc call 136 MC MS Q 259 [some (.ref r_0), some (.int x_1), some (.int x_2), some (.int x_3), some (.int x_4), some (.int x_5), some (.int x_6), some (.int x_7), o_8, o_9, o_10, o_11] [] h z c s) (K2 : ¬ ((f5 ((x_1 + 36) + x_5).toNatClampNeg) ≤ x_7) → ip sc call 136 MC MS Q 80 [some (.ref r_0), some (.int x_1), some (.int x_2), some (.int x_3), some (.int x_4), some (.int x_5), some (.int x_6), some (.int x_7), o_8, o_9, o_10, o_11] [] h z c s) : ip sc call 136 MC MS Q 63 [some (.ref r_0), some (.int x_1), some (.int x_2), some (.int x_3), some (.int x_4), some (.int x_5), some (.int x_6), some (.int x_7), o_8, o_9, o_10, o_11] [] h z c s := by
  refine jp_load (pc2 := 65) (n := 7) rfl rfl rfl rfl ?_
  refine jp_load (pc2 := 66) (n := 0) rfl rfl rfl rfl ?_
  refine jp_getf (pc2 := 69) rfl rfl e2 e3 ?_
  refine jp_load (pc2 := 70) (n := 1) rfl rfl rfl rfl ?_
  refine jp_con (pc2 := 72) (v := .int 36) rfl rfl rfl ?_
  refine jp_bin (pc2 := 73) (v := x_1 + 36) rfl rfl rfl ?_
  refine jp_load (pc2 := 75) (n := 5) rfl rfl rfl rfl ?_
  refine jp_bin (pc2 := 76) (v := (x_1 + 36) + x_5) rfl rfl rfl ?_
  refine jp_iald (pc2 := 77) rfl rfl e6 b7 ?_
  exact jp_icmp (pc2 := 80) rfl rfl K1 K2
set_option maxRecDepth 100000 in
theorem b136_80 {r_0 : Nat} {x_1 : Int32} {x_2 : Int32} {x_3 : Int32} {x_4 : Int32} {x_5 : Int32} {x_6 : Int32} {x_7 : Int32} {o_8 : Option Value} {o_9 : Option Value} {o_10 : Option Value} {o_11 : Option Value} {fs1 : List Value} {q_fs1_0 : Nat} {n4 : Nat} {f5 : Nat → Int32} (e2 : h r_0 = some (.inr (9, fs1))) (e3 : fs1[0]? = some (.ref q_fs1_0)) (e6 : h q_fs1_0 = some (.inl (0, n4, .inl f5))) (b7 : vp_in ((x_1 + 68) + x_3) n4) (K : ip sc call 136 MC MS Q 99 [some (.ref r_0), some (.int x_1), some (.int x_2), some (.int x_3), some (.int x_4), some (.int x_5), some (.int x_6), some (.int x_7), some (.int 0), some (.int (f5 ((x_1 + 68) + x_3).toNatClampNeg)), some (.int 0), o_11] [] h z c s) : ip sc call 136 MC MS Q 80 [some (.ref r_0), some (.int x_1), some (.int x_2), some (.int x_3), some (.int x_4), some (.int x_5), some (.int x_6), some (.int x_7), o_8, o_9, o_10, o_11] [] h z c s := by
  refine jp_con (pc2 := 81) (v := .int 0) rfl rfl rfl ?_
  refine jp_store (pc2 := 83) (n := 8) rfl rfl ⟨rfl, rfl⟩ rfl (Nat.le_of_ble_eq_true rfl) ?_
  refine jp_load (pc2 := 84) (n := 0) rfl rfl rfl rfl ?_
  refine jp_getf (pc2 := 87) rfl rfl e2 e3 ?_
  refine jp_load (pc2 := 88) (n := 1) rfl rfl rfl rfl ?_
  refine jp_con (pc2 := 90) (v := .int 68) rfl rfl rfl ?_
  refine jp_bin (pc2 := 91) (v := x_1 + 68) rfl rfl rfl ?_
  refine jp_load (pc2 := 92) (n := 3) rfl rfl rfl rfl ?_
  refine jp_bin (pc2 := 93) (v := (x_1 + 68) + x_3) rfl rfl rfl ?_
  refine jp_iald (pc2 := 94) rfl rfl e6 b7 ?_
  refine jp_store (pc2 := 96) (n := 9) rfl rfl ⟨rfl, rfl⟩ rfl (Nat.le_of_ble_eq_true rfl) ?_
  refine jp_con (pc2 := 97) (v := .int 0) rfl rfl rfl ?_
  refine jp_store (pc2 := 99) (n := 10) rfl rfl ⟨rfl, rfl⟩ rfl (Nat.le_of_ble_eq_true rfl) ?_
  exact K
set_option maxRecDepth 100000 in
theorem b136_99 {r_0 : Nat} {x_1 : Int32} {x_2 : Int32} {x_3 : Int32} {x_4 : Int32} {x_5 : Int32} {x_6 : Int32} {x_7 : Int32} {x_8 : Int32} {x_9 : Int32} {x_10 : Int32} {o_11 : Option Value}  (K1 : x_9 ≤ x_10 → ip sc call 136 MC MS Q 243 [some (.ref r_0), some (.int x_1), some (.int x_2), some (.int x_3), some (.int x_4), some (.int x_5), some (.int x_6), some (.int x_7), some (.int x_8), some (.int x_9), some (.int x_10), o_11] [] h z c s) (K2 : ¬ (x_9 ≤ x_10) → ip sc call 136 MC MS Q 106 [some (.ref r_0), some (.int x_1), some (.int x_2), some (.int x_3), some (.int x_4), some (.int x_5), some (.int x_6), some (.int x_7), some (.int x_8), some (.int x_9), some (.int x_10), o_11] [] h z c s) : ip sc call 136 MC MS Q 99 [some (.ref r_0), some (.int x_1), some (.int x_2), some (.int x_3), some (.int x_4), some (.int x_5), some (.int x_6), some (.int x_7), some (.int x_8), some (.int x_9), some (.int x_10), o_11] [] h z c s := by
  refine jp_load (pc2 := 101) (n := 10) rfl rfl rfl rfl ?_
  refine jp_load (pc2 := 103) (n := 9) rfl rfl rfl rfl ?_
  exact jp_icmp (pc2 := 106) rfl rfl K1 K2
set_option maxRecDepth 100000 in
theorem b136_106 {r_0 : Nat} {x_1 : Int32} {x_2 : Int32} {x_3 : Int32} {x_4 : Int32} {x_5 : Int32} {x_6 : Int32} {x_7 : Int32} {x_8 : Int32} {x_9 : Int32} {x_10 : Int32} {o_11 : Option Value} {fs1 : List Value} {q_fs1_0 : Nat} {n4 : Nat} {f5 : Nat → Int32} (e2 : h r_0 = some (.inr (9, fs1))) (e3 : fs1[0]? = some (.ref q_fs1_0)) (e6 : h q_fs1_0 = some (.inl (0, n4, .inl f5))) (b7 : vp_in (x_4 + x_10) n4) (b8 : vp_in ((x_1 + 4) + (f5 (x_4 + x_10).toNatClampNeg)) n4) (K1 : ¬ (f5 ((x_1 + 4) + (f5 (x_4 + x_10).toNatClampNeg)).toNatClampNeg) = 0 → ip sc call 136 MC MS Q 135 [some (.ref r_0), some (.int x_1), some (.int x_2), some (.int x_3), some (.int x_4), some (.int x_5), some (.int x_6), some (.int x_7), some (.int x_8), some (.int x_9), some (.int x_10), some (.int (f5 (x_4 + x_10).toNatClampNeg))] [] h z c s) (K2 : ¬ (¬ (f5 ((x_1 + 4) + (f5 (x_4 + x_10).toNatClampNeg)).toNatClampNeg) = 0) → ip sc call 136 MC MS Q 132 [some (.ref r_0), some (.int x_1), some (.int x_2), some (.int x_3), some (.int x_4), some (.int x_5), some (.int x_6), some (.int x_7), some (.int x_8), some (.int x_9), some (.int x_10), some (.int (f5 (x_4 + x_10).toNatClampNeg))] [] h z c s) : ip sc call 136 MC MS Q 106 [some (.ref r_0), some (.int x_1), some (.int x_2), some (.int x_3), some (.int x_4), some (.int x_5), some (.int x_6), some (.int x_7), some (.int x_8), some (.int x_9), some (.int x_10), o_11] [] h z c s := by
  refine jp_load (pc2 := 107) (n := 0) rfl rfl rfl rfl ?_
  refine jp_getf (pc2 := 110) rfl rfl e2 e3 ?_
  refine jp_load (pc2 := 112) (n := 4) rfl rfl rfl rfl ?_
  refine jp_load (pc2 := 114) (n := 10) rfl rfl rfl rfl ?_
  refine jp_bin (pc2 := 115) (v := x_4 + x_10) rfl rfl rfl ?_
  refine jp_iald (pc2 := 116) rfl rfl e6 b7 ?_
  refine jp_store (pc2 := 118) (n := 11) rfl rfl ⟨rfl, rfl⟩ rfl (Nat.le_of_ble_eq_true rfl) ?_
  refine jp_load (pc2 := 119) (n := 0) rfl rfl rfl rfl ?_
  refine jp_getf (pc2 := 122) rfl rfl e2 e3 ?_
  refine jp_load (pc2 := 123) (n := 1) rfl rfl rfl rfl ?_
  refine jp_con (pc2 := 124) (v := .int 4) rfl rfl rfl ?_
  refine jp_bin (pc2 := 125) (v := x_1 + 4) rfl rfl rfl ?_
  refine jp_load (pc2 := 127) (n := 11) rfl rfl rfl rfl ?_
  refine jp_bin (pc2 := 128) (v := (x_1 + 4) + (f5 (x_4 + x_10).toNatClampNeg)) rfl rfl rfl ?_
  refine jp_iald (pc2 := 129) rfl rfl e6 b8 ?_
  exact jp_if0 (pc2 := 132) rfl rfl K1 K2
set_option maxRecDepth 100000 in
theorem b136_132 {r_0 : Nat} {x_1 : Int32} {x_2 : Int32} {x_3 : Int32} {x_4 : Int32} {x_5 : Int32} {x_6 : Int32} {x_7 : Int32} {x_8 : Int32} {x_9 : Int32} {x_10 : Int32} {o_11 : Option Value}  (K : ip sc call 136 MC MS Q 237 [some (.ref r_0), some (.int x_1), some (.int x_2), some (.int x_3), some (.int x_4), some (.int x_5), some (.int x_6), some (.int x_7), some (.int x_8), some (.int x_9), some (.int x_10), o_11] [] h z c s) : ip sc call 136 MC MS Q 132 [some (.ref r_0), some (.int x_1), some (.int x_2), some (.int x_3), some (.int x_4), some (.int x_5), some (.int x_6), some (.int x_7), some (.int x_8), some (.int x_9), some (.int x_10), o_11] [] h z c s := by
  refine ip_goto rfl ?_
  exact K
set_option maxRecDepth 100000 in
theorem b136_135 {r_0 : Nat} {x_1 : Int32} {x_2 : Int32} {x_3 : Int32} {x_4 : Int32} {x_5 : Int32} {x_6 : Int32} {x_7 : Int32} {x_8 : Int32} {x_9 : Int32} {x_10 : Int32} {x_11 : Int32}  (K1 : ¬ x_6 = 0 → ip sc call 136 MC MS Q 145 [some (.ref r_0), some (.int x_1), some (.int x_2), some (.int x_3), some (.int x_4), some (.int x_5), some (.int x_6), some (.int x_7), some (.int x_8), some (.int x_9), some (.int x_10), some (.int x_11)] [] h z c s) (K2 : ¬ (¬ x_6 = 0) → ip sc call 136 MC MS Q 140 [some (.ref r_0), some (.int x_1), some (.int x_2), some (.int x_3), some (.int x_4), some (.int x_5), some (.int x_6), some (.int x_7), some (.int x_8), some (.int x_9), some (.int x_10), some (.int x_11)] [] h z c s) : ip sc call 136 MC MS Q 135 [some (.ref r_0), some (.int x_1), some (.int x_2), some (.int x_3), some (.int x_4), some (.int x_5), some (.int x_6), some (.int x_7), some (.int x_8), some (.int x_9), some (.int x_10), some (.int x_11)] [] h z c s := by
  refine jp_load (pc2 := 137) (n := 6) rfl rfl rfl rfl ?_
  exact jp_if0 (pc2 := 140) rfl rfl K1 K2
set_option maxRecDepth 100000 in
theorem b136_140 {r_0 : Nat} {x_1 : Int32} {x_2 : Int32} {x_3 : Int32} {x_4 : Int32} {x_5 : Int32} {o_6 : Option Value} {x_7 : Int32} {x_8 : Int32} {x_9 : Int32} {x_10 : Int32} {x_11 : Int32} {fs1 : List Value} {P : ipQ} (e2 : h r_0 = some (.inr (9, fs1))) (m3 : c ≤ MC) (m4 : s ≤ MS) (hc : call 100 [(.ref r_0), (.int x_2)] h z 0 0 P) (K : ∀ (o : Option Value) (h2 : HP) (z2 : Nat), P o h2 z2 → ip sc call 136 MC MS Q 145 [some (.ref r_0), some (.int x_1), some (.int x_2), some (.int x_3), some (.int x_4), some (.int x_5), o_6, some (.int x_7), some (.int x_8), some (.int x_9), some (.int x_10), some (.int x_11)] (o.toList ++ []) h2 z2 c s) : ip sc call 136 MC MS Q 140 [some (.ref r_0), some (.int x_1), some (.int x_2), some (.int x_3), some (.int x_4), some (.int x_5), o_6, some (.int x_7), some (.int x_8), some (.int x_9), some (.int x_10), some (.int x_11)] [] h z c s := by
  refine jp_load (pc2 := 141) (n := 0) rfl rfl rfl rfl ?_
  refine jp_load (pc2 := 142) (n := 2) rfl rfl rfl rfl ?_
  exact jp_virt0 (pc2 := 145) (As := [(.int x_2)]) (rest := []) rfl rfl rfl (Nat.le_of_ble_eq_true rfl) e2 m3 m4 hc rfl K
set_option maxRecDepth 100000 in
theorem b136_145 {r_0 : Nat} {x_1 : Int32} {x_2 : Int32} {x_3 : Int32} {x_4 : Int32} {x_5 : Int32} {o_6 : Option Value} {x_7 : Int32} {x_8 : Int32} {x_9 : Int32} {x_10 : Int32} {x_11 : Int32}  (K1 : ¬ x_8 = 0 → ip sc call 136 MC MS Q 155 [some (.ref r_0), some (.int x_1), some (.int x_2), some (.int x_3), some (.int x_4), some (.int x_5), o_6, some (.int x_7), some (.int x_8), some (.int x_9), some (.int x_10), some (.int x_11)] [] h z c s) (K2 : ¬ (¬ x_8 = 0) → ip sc call 136 MC MS Q 150 [some (.ref r_0), some (.int x_1), some (.int x_2), some (.int x_3), some (.int x_4), some (.int x_5), o_6, some (.int x_7), some (.int x_8), some (.int x_9), some (.int x_10), some (.int x_11)] [] h z c s) : ip sc call 136 MC MS Q 145 [some (.ref r_0), some (.int x_1), some (.int x_2), some (.int x_3), some (.int x_4), some (.int x_5), o_6, some (.int x_7), some (.int x_8), some (.int x_9), some (.int x_10), some (.int x_11)] [] h z c s := by
  refine jp_load (pc2 := 147) (n := 8) rfl rfl rfl rfl ?_
  exact jp_if0 (pc2 := 150) rfl rfl K1 K2
set_option maxRecDepth 100000 in
theorem b136_150 {r_0 : Nat} {x_1 : Int32} {x_2 : Int32} {x_3 : Int32} {x_4 : Int32} {x_5 : Int32} {o_6 : Option Value} {x_7 : Int32} {o_8 : Option Value} {x_9 : Int32} {x_10 : Int32} {x_11 : Int32} {fs1 : List Value} {P : ipQ} (e2 : h r_0 = some (.inr (9, fs1))) (m3 : c ≤ MC) (m4 : s ≤ MS) (hc : call 99 [(.ref r_0), (.int x_2)] h z 0 0 P) (K : ∀ (o : Option Value) (h2 : HP) (z2 : Nat), P o h2 z2 → ip sc call 136 MC MS Q 155 [some (.ref r_0), some (.int x_1), some (.int x_2), some (.int x_3), some (.int x_4), some (.int x_5), o_6, some (.int x_7), o_8, some (.int x_9), some (.int x_10), some (.int x_11)] (o.toList ++ []) h2 z2 c s) : ip sc call 136 MC MS Q 150 [some (.ref r_0), some (.int x_1), some (.int x_2), some (.int x_3), some (.int x_4), some (.int x_5), o_6, some (.int x_7), o_8, some (.int x_9), some (.int x_10), some (.int x_11)] [] h z c s := by
  refine jp_load (pc2 := 151) (n := 0) rfl rfl rfl rfl ?_
  refine jp_load (pc2 := 152) (n := 2) rfl rfl rfl rfl ?_
  exact jp_virt0 (pc2 := 155) (As := [(.int x_2)]) (rest := []) rfl rfl rfl (Nat.le_of_ble_eq_true rfl) e2 m3 m4 hc rfl K
set_option maxRecDepth 100000 in
theorem b136_155 {r_0 : Nat} {x_1 : Int32} {x_2 : Int32} {x_3 : Int32} {x_4 : Int32} {x_5 : Int32} {o_6 : Option Value} {x_7 : Int32} {o_8 : Option Value} {x_9 : Int32} {x_10 : Int32} {x_11 : Int32} {fs1 : List Value} {q_fs1_12 : Nat} {n4 : Nat} {f5 : Nat → Int32} (e2 : h r_0 = some (.inr (9, fs1))) (e3 : fs1[12]? = some (.ref q_fs1_12)) (e6 : h q_fs1_12 = some (.inl (0, n4, .inl f5))) (b7 : vp_in x_11 n4) (K1 : (0 : Int32) ≤ (f5 x_11.toNatClampNeg) → ip sc call 136 MC MS Q 225 [some (.ref r_0), some (.int x_1), some (.int x_2), some (.int x_3), some (.int x_4), some (.int x_5), some (.int 1), some (.int x_7), some (.int 1), some (.int x_9), some (.int x_10), some (.int x_11)] [] h z c s) (K2 : ¬ ((0 : Int32) ≤ (f5 x_11.toNatClampNeg)) → ip sc call 136 MC MS Q 171 [some (.ref r_0), some (.int x_1), some (.int x_2), some (.int x_3), some (.int x_4), some (.int x_5), some (.int 1), some (.int x_7), some (.int 1), some (.int x_9), some (.int x_10), some (.int x_11)] [] h z c s) : ip sc call 136 MC MS Q 155 [some (.ref r_0), some (.int x_1), some (.int x_2), some (.int x_3), some (.int x_4), some (.int x_5), o_6, some (.int x_7), o_8, some (.int x_9), some (.int x_10), some (.int x_11)] [] h z c s := by
  refine jp_con (pc2 := 156) (v := .int 1) rfl rfl rfl ?_
  refine jp_store (pc2 := 158) (n := 6) rfl rfl ⟨rfl, rfl⟩ rfl (Nat.le_of_ble_eq_true rfl) ?_
  refine jp_con (pc2 := 159) (v := .int 1) rfl rfl rfl ?_
  refine jp_store (pc2 := 161) (n := 8) rfl rfl ⟨rfl, rfl⟩ rfl (Nat.le_of_ble_eq_true rfl) ?_
  refine jp_load (pc2 := 162) (n := 0) rfl rfl rfl rfl ?_
  refine jp_getf (pc2 := 165) rfl rfl e2 e3 ?_
  refine jp_load (pc2 := 167) (n := 11) rfl rfl rfl rfl ?_
  refine jp_iald (pc2 := 168) rfl rfl e6 b7 ?_
  exact jp_if0 (pc2 := 171) rfl rfl K1 K2
set_option maxRecDepth 100000 in
theorem b136_171 {r_0 : Nat} {x_1 : Int32} {x_2 : Int32} {x_3 : Int32} {x_4 : Int32} {x_5 : Int32} {x_6 : Int32} {x_7 : Int32} {x_8 : Int32} {x_9 : Int32} {x_10 : Int32} {x_11 : Int32} {fs1 : List Value} {q_fs1_12 : Nat} {q_fs1_0 : Nat} {n5 : Nat} {f6 : Nat → Int32} {n9 : Nat} {f10 : Nat → Int32} (e2 : h r_0 = some (.inr (9, fs1))) (e3 : fs1[12]? = some (.ref q_fs1_12)) (e4 : fs1[0]? = some (.ref q_fs1_0)) (e7 : h q_fs1_0 = some (.inl (0, n5, .inl f6))) (b8 : vp_in (x_2 + 0) n5) (e11 : h q_fs1_12 = some (.inl (0, n9, .inl f10))) (b12 : vp_in x_11 n9) (n13 : r_0 ≠ q_fs1_12) (n14 : q_fs1_0 ≠ q_fs1_12) (b15 : vp_in ((x_1 + 4) + x_11) n5) (b16 : vp_in ((x_2 + 4) + (((upd f10 x_11.toNatClampNeg (f6 (x_2 + 0).toNatClampNeg))) x_11.toNatClampNeg)) n5) (n17 : r_0 ≠ q_fs1_0) (K : ip sc call 136 MC MS Q 225 [some (.ref r_0), some (.int x_1), some (.int x_2), some (.int x_3), some (.int x_4), some (.int x_5), some (.int x_6), some (.int x_7), some (.int x_8), some (.int x_9), some (.int x_10), some (.int x_11)] [] (hup (hup (hup h q_fs1_12 (.inl (0, n9, .inl (upd f10 x_11.toNatClampNeg (f6 (x_2 + 0).toNatClampNeg))))) q_fs1_0 (.inl (0, n5, .inl (upd f6 ((x_2 + 4) + (((upd f10 x_11.toNatClampNeg (f6 (x_2 + 0).toNatClampNeg))) x_11.toNatClampNeg)).toNatClampNeg (f6 ((x_1 + 4) + x_11).toNatClampNeg))))) q_fs1_0 (.inl (0, n5, .inl (upd ((upd f6 ((x_2 + 4) + (((upd f10 x_11.toNatClampNeg (f6 (x_2 + 0).toNatClampNeg))) x_11.toNatClampNeg)).toNatClampNeg (f6 ((x_1 + 4) + x_11).toNatClampNeg))) (x_2 + 0).toNatClampNeg ((((upd f6 ((x_2 + 4) + (((upd f10 x_11.toNatClampNeg (f6 (x_2 + 0).toNatClampNeg))) x_11.toNatClampNeg)).toNatClampNeg (f6 ((x_1 + 4) + x_11).toNatClampNeg))) (x_2 + 0).toNatClampNeg) + 1))))) z c s) : ip sc call 136 MC MS Q 171 [some (.ref r_0), some (.int x_1), some (.int x_2), some (.int x_3), some (.int x_4), some (.int x_5), some (.int x_6), some (.int x_7), some (.int x_8), some (.int x_9), some (.int x_10), some (.int x_11)] [] h z c s := by
  refine jp_load (pc2 := 172) (n := 0) rfl rfl rfl rfl ?_
  refine jp_getf (pc2 := 175) rfl rfl e2 e3 ?_
  refine jp_load (pc2 := 177) (n := 11) rfl rfl rfl rfl ?_
  refine jp_load (pc2 := 178) (n := 0) rfl rfl rfl rfl ?_
  refine jp_getf (pc2 := 181) rfl rfl e2 e4 ?_
  refine jp_load (pc2 := 182) (n := 2) rfl rfl rfl rfl ?_
  refine jp_con (pc2 := 183) (v := .int 0) rfl rfl rfl ?_
  refine jp_bin (pc2 := 184) (v := x_2 + 0) rfl rfl rfl ?_
  refine jp_iald (pc2 := 185) rfl rfl e7 b8 ?_
  refine jp_iast (pc2 := 186) rfl rfl e11 b12 ?_
  refine jp_load (pc2 := 187) (n := 0) rfl rfl rfl rfl ?_
  refine jp_getf (pc2 := 190) rfl rfl (hup_ne n13 e2) e4 ?_
  refine jp_load (pc2 := 191) (n := 2) rfl rfl rfl rfl ?_
  refine jp_con (pc2 := 192) (v := .int 4) rfl rfl rfl ?_
  refine jp_bin (pc2 := 193) (v := x_2 + 4) rfl rfl rfl ?_
  refine jp_load (pc2 := 194) (n := 0) rfl rfl rfl rfl ?_
  refine jp_getf (pc2 := 197) rfl rfl (hup_ne n13 e2) e3 ?_
  refine jp_load (pc2 := 199) (n := 11) rfl rfl rfl rfl ?_
  refine jp_iald (pc2 := 200) rfl rfl hup_eq b12 ?_
  refine jp_bin (pc2 := 201) (v := (x_2 + 4) + (((upd f10 x_11.toNatClampNeg (f6 (x_2 + 0).toNatClampNeg))) x_11.toNatClampNeg)) rfl rfl rfl ?_
  refine jp_load (pc2 := 202) (n := 0) rfl rfl rfl rfl ?_
  refine jp_getf (pc2 := 205) rfl rfl (hup_ne n13 e2) e4 ?_
  refine jp_load (pc2 := 206) (n := 1) rfl rfl rfl rfl ?_
  refine jp_con (pc2 := 207) (v := .int 4) rfl rfl rfl ?_
  refine jp_bin (pc2 := 208) (v := x_1 + 4) rfl rfl rfl ?_
  refine jp_load (pc2 := 210) (n := 11) rfl rfl rfl rfl ?_
  refine jp_bin (pc2 := 211) (v := (x_1 + 4) + x_11) rfl rfl rfl ?_
  refine jp_iald (pc2 := 212) rfl rfl (hup_ne n14 e7) b15 ?_
  refine jp_iast (pc2 := 213) rfl rfl (hup_ne n14 e7) b16 ?_
  refine jp_load (pc2 := 214) (n := 0) rfl rfl rfl rfl ?_
  refine jp_getf (pc2 := 217) rfl rfl (hup_ne n17 (hup_ne n13 e2)) e4 ?_
  refine jp_load (pc2 := 218) (n := 2) rfl rfl rfl rfl ?_
  refine jp_con (pc2 := 219) (v := .int 0) rfl rfl rfl ?_
  refine jp_bin (pc2 := 220) (v := x_2 + 0) rfl rfl rfl ?_
  refine jp_dup2 (pc2 := 221) rfl rfl rfl rfl ?_
  refine jp_iald (pc2 := 222) rfl rfl hup_eq b8 ?_
  refine jp_con (pc2 := 223) (v := .int 1) rfl rfl rfl ?_
  refine jp_bin (pc2 := 224) (v := (((upd f6 ((x_2 + 4) + (((upd f10 x_11.toNatClampNeg (f6 (x_2 + 0).toNatClampNeg))) x_11.toNatClampNeg)).toNatClampNeg (f6 ((x_1 + 4) + x_11).toNatClampNeg))) (x_2 + 0).toNatClampNeg) + 1) rfl rfl rfl ?_
  refine jp_iast (pc2 := 225) rfl rfl hup_eq b8 ?_
  exact K
set_option maxRecDepth 100000 in
theorem b136_225 {r_0 : Nat} {x_1 : Int32} {x_2 : Int32} {x_3 : Int32} {x_4 : Int32} {x_5 : Int32} {x_6 : Int32} {x_7 : Int32} {x_8 : Int32} {x_9 : Int32} {x_10 : Int32} {x_11 : Int32} {fs1 : List Value} {q_fs1_12 : Nat} {n4 : Nat} {f5 : Nat → Int32} {P : ipQ} (e2 : h r_0 = some (.inr (9, fs1))) (e3 : fs1[12]? = some (.ref q_fs1_12)) (e6 : h q_fs1_12 = some (.inl (0, n4, .inl f5))) (b7 : vp_in x_11 n4) (m8 : c ≤ MC) (m9 : s ≤ MS) (hc : call 101 [(.ref r_0), (.int x_2), (.int (f5 x_11.toNatClampNeg))] h z 0 0 P) (K : ∀ (o : Option Value) (h2 : HP) (z2 : Nat), P o h2 z2 → ip sc call 136 MC MS Q 237 [some (.ref r_0), some (.int x_1), some (.int x_2), some (.int x_3), some (.int x_4), some (.int x_5), some (.int x_6), some (.int x_7), some (.int x_8), some (.int x_9), some (.int x_10), some (.int x_11)] (o.toList ++ []) h2 z2 c s) : ip sc call 136 MC MS Q 225 [some (.ref r_0), some (.int x_1), some (.int x_2), some (.int x_3), some (.int x_4), some (.int x_5), some (.int x_6), some (.int x_7), some (.int x_8), some (.int x_9), some (.int x_10), some (.int x_11)] [] h z c s := by
  refine jp_load (pc2 := 226) (n := 0) rfl rfl rfl rfl ?_
  refine jp_load (pc2 := 227) (n := 2) rfl rfl rfl rfl ?_
  refine jp_load (pc2 := 228) (n := 0) rfl rfl rfl rfl ?_
  refine jp_getf (pc2 := 231) rfl rfl e2 e3 ?_
  refine jp_load (pc2 := 233) (n := 11) rfl rfl rfl rfl ?_
  refine jp_iald (pc2 := 234) rfl rfl e6 b7 ?_
  exact jp_virt0 (pc2 := 237) (As := [(.int x_2), (.int (f5 x_11.toNatClampNeg))]) (rest := []) rfl rfl rfl (Nat.le_of_ble_eq_true rfl) e2 m8 m9 hc rfl K
set_option maxRecDepth 100000 in
theorem b136_237 {r_0 : Nat} {x_1 : Int32} {x_2 : Int32} {x_3 : Int32} {x_4 : Int32} {x_5 : Int32} {x_6 : Int32} {x_7 : Int32} {x_8 : Int32} {x_9 : Int32} {x_10 : Int32} {o_11 : Option Value}  (K : ip sc call 136 MC MS Q 99 [some (.ref r_0), some (.int x_1), some (.int x_2), some (.int x_3), some (.int x_4), some (.int x_5), some (.int x_6), some (.int x_7), some (.int x_8), some (.int x_9), some (.int (x_10 + 1)), o_11] [] h z c s) : ip sc call 136 MC MS Q 237 [some (.ref r_0), some (.int x_1), some (.int x_2), some (.int x_3), some (.int x_4), some (.int x_5), some (.int x_6), some (.int x_7), some (.int x_8), some (.int x_9), some (.int x_10), o_11] [] h z c s := by
  refine jp_iinc (pc2 := 240) (n := 10) (v := x_10 + 1) rfl rfl rfl rfl rfl ?_
  refine ip_goto rfl ?_
  exact K
set_option maxRecDepth 100000 in
theorem b136_243 {r_0 : Nat} {x_1 : Int32} {x_2 : Int32} {x_3 : Int32} {x_4 : Int32} {x_5 : Int32} {x_6 : Int32} {x_7 : Int32} {o_8 : Option Value} {x_9 : Int32} {o_10 : Option Value} {o_11 : Option Value}  (K : ip sc call 136 MC MS Q 63 [some (.ref r_0), some (.int x_1), some (.int x_2), some (.int (x_3 + 1)), some (.int (x_4 + x_9)), some (.int x_5), some (.int x_6), some (.int (x_7 + 1)), o_8, some (.int x_9), o_10, o_11] [] h z c s) : ip sc call 136 MC MS Q 243 [some (.ref r_0), some (.int x_1), some (.int x_2), some (.int x_3), some (.int x_4), some (.int x_5), some (.int x_6), some (.int x_7), o_8, some (.int x_9), o_10, o_11] [] h z c s := by
  refine jp_load (pc2 := 245) (n := 4) rfl rfl rfl rfl ?_
  refine jp_load (pc2 := 247) (n := 9) rfl rfl rfl rfl ?_
  refine jp_bin (pc2 := 248) (v := x_4 + x_9) rfl rfl rfl ?_
  refine jp_store (pc2 := 250) (n := 4) rfl rfl ⟨rfl, rfl⟩ rfl (Nat.le_of_ble_eq_true rfl) ?_
  refine jp_iinc (pc2 := 253) (n := 3) (v := x_3 + 1) rfl rfl rfl rfl rfl ?_
  refine jp_iinc (pc2 := 256) (n := 7) (v := x_7 + 1) rfl rfl rfl rfl rfl ?_
  refine ip_goto rfl ?_
  exact K
set_option maxRecDepth 100000 in
theorem b136_259 {r_0 : Nat} {x_1 : Int32} {x_2 : Int32} {x_3 : Int32} {x_4 : Int32} {x_5 : Int32} {o_6 : Option Value} {o_7 : Option Value} {o_8 : Option Value} {o_9 : Option Value} {o_10 : Option Value} {o_11 : Option Value}  (K : ip sc call 136 MC MS Q 44 [some (.ref r_0), some (.int x_1), some (.int x_2), some (.int x_3), some (.int x_4), some (.int (x_5 + 1)), o_6, o_7, o_8, o_9, o_10, o_11] [] h z c s) : ip sc call 136 MC MS Q 259 [some (.ref r_0), some (.int x_1), some (.int x_2), some (.int x_3), some (.int x_4), some (.int x_5), o_6, o_7, o_8, o_9, o_10, o_11] [] h z c s := by
  refine jp_iinc (pc2 := 262) (n := 5) (v := x_5 + 1) rfl rfl rfl rfl rfl ?_
  refine ip_goto rfl ?_
  exact K
set_option maxRecDepth 100000 in
theorem b136_265 {o_0 : Option Value} {o_1 : Option Value} {o_2 : Option Value} {o_3 : Option Value} {o_4 : Option Value} {o_5 : Option Value} {o_6 : Option Value} {o_7 : Option Value} {o_8 : Option Value} {o_9 : Option Value} {o_10 : Option Value} {o_11 : Option Value} (q1 : Q none h z)  : ip sc call 136 MC MS Q 265 [o_0, o_1, o_2, o_3, o_4, o_5, o_6, o_7, o_8, o_9, o_10, o_11] [] h z c s := by
  exact ip_vret (st := []) rfl rfl q1
theorem b137_0 {r_0 : Nat} {x_1 : Int32} {o_2 : Option Value} {o_3 : Option Value} {o_4 : Option Value} {o_5 : Option Value} {o_6 : Option Value} {o_7 : Option Value} {o_8 : Option Value} {o_9 : Option Value}  (K : ip sc call 137 MC MS Q 2 [some (.ref r_0), some (.int x_1), some (.int 0), o_3, o_4, o_5, o_6, o_7, o_8, o_9] [] h z c s) : ip sc call 137 MC MS Q 0 [some (.ref r_0), some (.int x_1), o_2, o_3, o_4, o_5, o_6, o_7, o_8, o_9] [] h z c s := by
  refine jp_con (pc2 := 1) (v := .int 0) rfl rfl rfl ?_
  refine jp_store (pc2 := 2) (n := 2) rfl rfl ⟨rfl, rfl⟩ rfl (Nat.le_of_ble_eq_true rfl) ?_
  exact K
theorem b137_2 {r_0 : Nat} {x_1 : Int32} {x_2 : Int32} {o_3 : Option Value} {o_4 : Option Value} {o_5 : Option Value} {o_6 : Option Value} {o_7 : Option Value} {o_8 : Option Value} {o_9 : Option Value} {fs1 : List Value} {q_fs1_0 : Nat} {n4 : Nat} {f5 : Nat → Int32} (e2 : h r_0 = some (.inr (9, fs1))) (e3 : fs1[0]? = some (.ref q_fs1_0)) (e6 : h q_fs1_0 = some (.inl (0, n4, .inl f5))) (b7 : vp_in (x_1 + 1) n4) (K1 : (f5 (x_1 + 1).toNatClampNeg) ≤ x_2 → ip sc call 137 MC MS Q 27 [some (.ref r_0), some (.int x_1), some (.int x_2), o_3, o_4, o_5, o_6, o_7, o_8, o_9] [] h z c s) (K2 : ¬ ((f5 (x_1 + 1).toNatClampNeg) ≤ x_2) → ip sc call 137 MC MS Q 14 [some (.ref r_0), some (.int x_1), some (.int x_2), o_3, o_4, o_5, o_6, o_7, o_8, o_9] [] h z c s) : ip sc call 137 MC MS Q 2 [some (.ref r_0), some (.int x_1), some (.int x_2), o_3, o_4, o_5, o_6, o_7, o_8, o_9] [] h z c s := by
  refine jp_load (pc2 := 3) (n := 2) rfl rfl rfl rfl ?_
  refine jp_load (pc2 := 4) (n := 0) rfl rfl rfl rfl ?_
  refine jp_getf (pc2 := 7) rfl rfl e2 e3 ?_
  refine jp_load (pc2 := 8) (n := 1) rfl rfl rfl rfl ?_
  refine jp_con (pc2 := 9) (v := .int 1) rfl rfl rfl ?_
  refine jp_bin (pc2 := 10) (v := x_1 + 1) rfl rfl rfl ?_
  refine jp_iald (pc2 := 11) rfl rfl e6 b7 ?_
  exact jp_icmp (pc2 := 14) rfl rfl K1 K2
theorem b137_14 {r_0 : Nat} {x_1 : Int32} {x_2 : Int32} {o_3 : Option Value} {o_4 : Option Value} {o_5 : Option Value} {o_6 : Option Value} {o_7 : Option Value} {o_8 : Option Value} {o_9 : Option Value} {fs1 : List Value} {q_fs1_13 : Nat} {n4 : Nat} {f5 : Nat → Int32} (e2 : h r_0 = some (.inr (9, fs1))) (e3 : fs1[13]? = some (.ref q_fs1_13)) (e6 : h q_fs1_13 = some (.inl (0, n4, .inl f5))) (b7 : vp_in x_2 n4) (K : ip sc call 137 MC MS Q 2 [some (.ref r_0), some (.int x_1), some (.int (x_2 + 1)), o_3, o_4, o_5, o_6, o_7, o_8, o_9] [] (hup h q_fs1_13 (.inl (0, n4, .inl (upd f5 x_2.toNatClampNeg x_2)))) z c s) : ip sc call 137 MC MS Q 14 [some (.ref r_0), some (.int x_1), some (.int x_2), o_3, o_4, o_5, o_6, o_7, o_8, o_9] [] h z c s := by
  refine jp_load (pc2 := 15) (n := 0) rfl rfl rfl rfl ?_
  refine jp_getf (pc2 := 18) rfl rfl e2 e3 ?_
  refine jp_load (pc2 := 19) (n := 2) rfl rfl rfl rfl ?_
  refine jp_load (pc2 := 20) (n := 2) rfl rfl rfl rfl ?_
  refine jp_iast (pc2 := 21) rfl rfl e6 b7 ?_
  refine jp_iinc (pc2 := 24) (n := 2) (v := x_2 + 1) rfl rfl rfl rfl rfl ?_
  refine ip_goto rfl ?_
  exact K
theorem b137_27 {r_0 : Nat} {x_1 : Int32} {o_2 : Option Value} {o_3 : Option Value} {o_4 : Option Value} {o_5 : Option Value} {o_6 : Option Value} {o_7 : Option Value} {o_8 : Option Value} {o_9 : Option Value}  (K : ip sc call 137 MC MS Q 29 [some (.ref r_0), some (.int x_1), some (.int 0), o_3, o_4, o_5, o_6, o_7, o_8, o_9] [] h z c s) : ip sc call 137 MC MS Q 27 [some (.ref r_0), some (.int x_1), o_2, o_3, o_4, o_5, o_6, o_7, o_8, o_9] [] h z c s := by
  refine jp_con (pc2 := 28) (v := .int 0) rfl rfl rfl ?_
  refine jp_store (pc2 := 29) (n := 2) rfl rfl ⟨rfl, rfl⟩ rfl (Nat.le_of_ble_eq_true rfl) ?_
  exact K
theorem b137_29 {r_0 : Nat} {x_1 : Int32} {x_2 : Int32} {o_3 : Option Value} {o_4 : Option Value} {o_5 : Option Value} {o_6 : Option Value} {o_7 : Option Value} {o_8 : Option Value} {o_9 : Option Value} {fs1 : List Value} {q_fs1_0 : Nat} {n4 : Nat} {f5 : Nat → Int32} (e2 : h r_0 = some (.inr (9, fs1))) (e3 : fs1[0]? = some (.ref q_fs1_0)) (e6 : h q_fs1_0 = some (.inl (0, n4, .inl f5))) (b7 : vp_in (x_1 + 0) n4) (K1 : (f5 (x_1 + 0).toNatClampNeg) ≤ x_2 → ip sc call 137 MC MS Q 211 [some (.ref r_0), some (.int x_1), some (.int x_2), o_3, o_4, o_5, o_6, o_7, o_8, o_9] [] h z c s) (K2 : ¬ ((f5 (x_1 + 0).toNatClampNeg) ≤ x_2) → ip sc call 137 MC MS Q 41 [some (.ref r_0), some (.int x_1), some (.int x_2), o_3, o_4, o_5, o_6, o_7, o_8, o_9] [] h z c s) : ip sc call 137 MC MS Q 29 [some (.ref r_0), some (.int x_1), some (.int x_2), o_3, o_4, o_5, o_6, o_7, o_8, o_9] [] h z c s := by
  refine jp_load (pc2 := 30) (n := 2) rfl rfl rfl rfl ?_
  refine jp_load (pc2 := 31) (n := 0) rfl rfl rfl rfl ?_
  refine jp_getf (pc2 := 34) rfl rfl e2 e3 ?_
  refine jp_load (pc2 := 35) (n := 1) rfl rfl rfl rfl ?_
  refine jp_con (pc2 := 36) (v := .int 0) rfl rfl rfl ?_
  refine jp_bin (pc2 := 37) (v := x_1 + 0) rfl rfl rfl ?_
  refine jp_iald (pc2 := 38) rfl rfl e6 b7 ?_
  exact jp_icmp (pc2 := 41) rfl rfl K1 K2
theorem b137_41 {r_0 : Nat} {x_1 : Int32} {x_2 : Int32} {o_3 : Option Value} {o_4 : Option Value} {o_5 : Option Value} {o_6 : Option Value} {o_7 : Option Value} {o_8 : Option Value} {o_9 : Option Value}  (K : ip sc call 137 MC MS Q 56 [some (.ref r_0), some (.int x_1), some (.int x_2), some (.int ((-1))), some (.int 0), some (.int (x_1 + 132)), some (.int 0), o_7, o_8, o_9] [] h z c s) : ip sc call 137 MC MS Q 41 [some (.ref r_0), some (.int x_1), some (.int x_2), o_3, o_4, o_5, o_6, o_7, o_8, o_9] [] h z c s := by
  refine jp_con (pc2 := 42) (v := .int (-1)) rfl rfl rfl ?_
  refine jp_store (pc2 := 43) (n := 3) rfl rfl ⟨rfl, rfl⟩ rfl (Nat.le_of_ble_eq_true rfl) ?_
  refine jp_con (pc2 := 44) (v := .int 0) rfl rfl rfl ?_
  refine jp_store (pc2 := 46) (n := 4) rfl rfl ⟨rfl, rfl⟩ rfl (Nat.le_of_ble_eq_true rfl) ?_
  refine jp_load (pc2 := 47) (n := 1) rfl rfl rfl rfl ?_
  refine jp_con (pc2 := 50) (v := .int 132) rfl rfl rfl ?_
  refine jp_bin (pc2 := 51) (v := x_1 + 132) rfl rfl rfl ?_
  refine jp_store (pc2 := 53) (n := 5) rfl rfl ⟨rfl, rfl⟩ rfl (Nat.le_of_ble_eq_true rfl) ?_
  refine jp_con (pc2 := 54) (v := .int 0) rfl rfl rfl ?_
  refine jp_store (pc2 := 56) (n := 6) rfl rfl ⟨rfl, rfl⟩ rfl (Nat.le_of_ble_eq_true rfl) ?_
  exact K
theorem b137_56 {r_0 : Nat} {x_1 : Int32} {x_2 : Int32} {x_3 : Int32} {x_4 : Int32} {x_5 : Int32} {x_6 : Int32} {o_7 : Option Value} {o_8 : Option Value} {o_9 : Option Value} {fs1 : List Value} {q_fs1_0 : Nat} {n4 : Nat} {f5 : Nat → Int32} (e2 : h r_0 = some (.inr (9, fs1))) (e3 : fs1[0]? = some (.ref q_fs1_0)) (e6 : h q_fs1_0 = some (.inl (0, n4, .inl f5))) (b7 : vp_in (x_1 + 1) n4) (K1 : (f5 (x_1 + 1).toNatClampNeg) ≤ x_6 → ip sc call 137 MC MS Q 205 [some (.ref r_0), some (.int x_1), some (.int x_2), some (.int x_3), some (.int x_4), some (.int x_5), some (.int x_6), o_7, o_8, o_9] [] h z c s) (K2 : ¬ ((f5 (x_1 + 1).toNatClampNeg) ≤ x_6) → ip sc call 137 MC MS Q 69 [some (.ref r_0), some (.int x_1), some (.int x_2), some (.int x_3), some (.int x_4), some (.int x_5), some (.int x_6), o_7, o_8, o_9] [] h z c s) : ip sc call 137 MC MS Q 56 [some (.ref r_0), some (.int x_1), some (.int x_2), some (.int x_3), some (.int x_4), some (.int x_5), some (.int x_6), o_7, o_8, o_9] [] h z c s := by
  refine jp_load (pc2 := 58) (n := 6) rfl rfl rfl rfl ?_
  refine jp_load (pc2 := 59) (n := 0) rfl rfl rfl rfl ?_
  refine jp_getf (pc2 := 62) rfl rfl e2 e3 ?_
  refine jp_load (pc2 := 63) (n := 1) rfl rfl rfl rfl ?_
  refine jp_con (pc2 := 64) (v := .int 1) rfl rfl rfl ?_
  refine jp_bin (pc2 := 65) (v := x_1 + 1) rfl rfl rfl ?_
  refine jp_iald (pc2 := 66) rfl rfl e6 b7 ?_
  exact jp_icmp (pc2 := 69) rfl rfl K1 K2
theorem b137_69 {r_0 : Nat} {x_1 : Int32} {x_2 : Int32} {x_3 : Int32} {x_4 : Int32} {x_5 : Int32} {x_6 : Int32} {o_7 : Option Value} {o_8 : Option Value} {o_9 : Option Value}  (K : ip sc call 137 MC MS Q 75 [some (.ref r_0), some (.int x_1), some (.int x_2), some (.int x_3), some (.int x_4), some (.int x_5), some (.int x_6), some (.int 0), some (.int 0), o_9] [] h z c s) : ip sc call 137 MC MS Q 69 [some (.ref r_0), some (.int x_1), some (.int x_2), some (.int x_3), some (.int x_4), some (.int x_5), some (.int x_6), o_7, o_8, o_9] [] h z c s := by
  refine jp_con (pc2 := 70) (v := .int 0) rfl rfl rfl ?_
  refine jp_store (pc2 := 72) (n := 7) rfl rfl ⟨rfl, rfl⟩ rfl (Nat.le_of_ble_eq_true rfl) ?_
  refine jp_con (pc2 := 73) (v := .int 0) rfl rfl rfl ?_
  refine jp_store (pc2 := 75) (n := 8) rfl rfl ⟨rfl, rfl⟩ rfl (Nat.le_of_ble_eq_true rfl) ?_
  exact K
theorem b137_75 {r_0 : Nat} {x_1 : Int32} {x_2 : Int32} {x_3 : Int32} {x_4 : Int32} {x_5 : Int32} {x_6 : Int32} {x_7 : Int32} {x_8 : Int32} {o_9 : Option Value} {fs1 : List Value} {q_fs1_0 : Nat} {n4 : Nat} {f5 : Nat → Int32} (e2 : h r_0 = some (.inr (9, fs1))) (e3 : fs1[0]? = some (.ref q_fs1_0)) (e6 : h q_fs1_0 = some (.inl (0, n4, .inl f5))) (b7 : vp_in ((x_1 + 36) + x_6) n4) (K1 : (f5 ((x_1 + 36) + x_6).toNatClampNeg) ≤ x_8 → ip sc call 137 MC MS Q 170 [some (.ref r_0), some (.int x_1), some (.int x_2), some (.int x_3), some (.int x_4), some (.int x_5), some (.int x_6), some (.int x_7), some (.int x_8), o_9] [] h z c s) (K2 : ¬ ((f5 ((x_1 + 36) + x_6).toNatClampNeg) ≤ x_8) → ip sc call 137 MC MS Q 92 [some (.ref r_0), some (.int x_1), some (.int x_2), some (.int x_3), some (.int x_4), some (.int x_5), some (.int x_6), some (.int x_7), some (.int x_8), o_9] [] h z c s) : ip sc call 137 MC MS Q 75 [some (.ref r_0), some (.int x_1), some (.int x_2), some (.int x_3), some (.int x_4), some (.int x_5), some (.int x_6), some (.int x_7), some (.int x_8), o_9] [] h z c s := by
  refine jp_load (pc2 := 77) (n := 8) rfl rfl rfl rfl ?_
  refine jp_load (pc2 := 78) (n := 0) rfl rfl rfl rfl ?_
  refine jp_getf (pc2 := 81) rfl rfl e2 e3 ?_
  refine jp_load (pc2 := 82) (n := 1) rfl rfl rfl rfl ?_
  refine jp_con (pc2 := 84) (v := .int 36) rfl rfl rfl ?_
  refine jp_bin (pc2 := 85) (v := x_1 + 36) rfl rfl rfl ?_
  refine jp_load (pc2 := 87) (n := 6) rfl rfl rfl rfl ?_
  refine jp_bin (pc2 := 88) (v := (x_1 + 36) + x_6) rfl rfl rfl ?_
  refine jp_iald (pc2 := 89) rfl rfl e6 b7 ?_
  exact jp_icmp (pc2 := 92) rfl rfl K1 K2
theorem b137_92 {r_0 : Nat} {x_1 : Int32} {x_2 : Int32} {x_3 : Int32} {x_4 : Int32} {x_5 : Int32} {x_6 : Int32} {x_7 : Int32} {x_8 : Int32} {o_9 : Option Value}  (K : ip sc call 137 MC MS Q 95 [some (.ref r_0), some (.int x_1), some (.int x_2), some (.int x_3), some (.int x_4), some (.int x_5), some (.int x_6), some (.int x_7), some (.int x_8), some (.int 0)] [] h z c s) : ip sc call 137 MC MS Q 92 [some (.ref r_0), some (.int x_1), some (.int x_2), some (.int x_3), some (.int x_4), some (.int x_5), some (.int x_6), some (.int x_7), some (.int x_8), o_9] [] h z c s := by
  refine jp_con (pc2 := 93) (v := .int 0) rfl rfl rfl ?_
  refine jp_store (pc2 := 95) (n := 9) rfl rfl ⟨rfl, rfl⟩ rfl (Nat.le_of_ble_eq_true rfl) ?_
  exact K
theorem b137_95 {r_0 : Nat} {x_1 : Int32} {x_2 : Int32} {x_3 : Int32} {x_4 : Int32} {x_5 : Int32} {x_6 : Int32} {x_7 : Int32} {x_8 : Int32} {x_9 : Int32} {fs1 : List Value} {q_fs1_0 : Nat} {n4 : Nat} {f5 : Nat → Int32} (e2 : h r_0 = some (.inr (9, fs1))) (e3 : fs1[0]? = some (.ref q_fs1_0)) (e6 : h q_fs1_0 = some (.inl (0, n4, .inl f5))) (b7 : vp_in ((x_1 + 68) + x_4) n4) (K1 : (f5 ((x_1 + 68) + x_4).toNatClampNeg) ≤ x_9 → ip sc call 137 MC MS Q 144 [some (.ref r_0), some (.int x_1), some (.int x_2), some (.int x_3), some (.int x_4), some (.int x_5), some (.int x_6), some (.int x_7), some (.int x_8), some (.int x_9)] [] h z c s) (K2 : ¬ ((f5 ((x_1 + 68) + x_4).toNatClampNeg) ≤ x_9) → ip sc call 137 MC MS Q 112 [some (.ref r_0), some (.int x_1), some (.int x_2), some (.int x_3), some (.int x_4), some (.int x_5), some (.int x_6), some (.int x_7), some (.int x_8), some (.int x_9)] [] h z c s) : ip sc call 137 MC MS Q 95 [some (.ref r_0), some (.int x_1), some (.int x_2), some (.int x_3), some (.int x_4), some (.int x_5), some (.int x_6), some (.int x_7), some (.int x_8), some (.int x_9)] [] h z c s := by
  refine jp_load (pc2 := 97) (n := 9) rfl rfl rfl rfl ?_
  refine jp_load (pc2 := 98) (n := 0) rfl rfl rfl rfl ?_
  refine jp_getf (pc2 := 101) rfl rfl e2 e3 ?_
  refine jp_load (pc2 := 102) (n := 1) rfl rfl rfl rfl ?_
  refine jp_con (pc2 := 104) (v := .int 68) rfl rfl rfl ?_
  refine jp_bin (pc2 := 105) (v := x_1 + 68) rfl rfl rfl ?_
  refine jp_load (pc2 := 107) (n := 4) rfl rfl rfl rfl ?_
  refine jp_bin (pc2 := 108) (v := (x_1 + 68) + x_4) rfl rfl rfl ?_
  refine jp_iald (pc2 := 109) rfl rfl e6 b7 ?_
  exact jp_icmp (pc2 := 112) rfl rfl K1 K2
theorem b137_112 {r_0 : Nat} {x_1 : Int32} {x_2 : Int32} {x_3 : Int32} {x_4 : Int32} {x_5 : Int32} {x_6 : Int32} {x_7 : Int32} {x_8 : Int32} {x_9 : Int32}  (K1 : ¬ x_7 = 0 → ip sc call 137 MC MS Q 131 [some (.ref r_0), some (.int x_1), some (.int x_2), some (.int x_3), some (.int x_4), some (.int x_5), some (.int x_6), some (.int x_7), some (.int x_8), some (.int x_9)] [] h z c s) (K2 : ¬ (¬ x_7 = 0) → ip sc call 137 MC MS Q 117 [some (.ref r_0), some (.int x_1), some (.int x_2), some (.int x_3), some (.int x_4), some (.int x_5), some (.int x_6), some (.int x_7), some (.int x_8), some (.int x_9)] [] h z c s) : ip sc call 137 MC MS Q 112 [some (.ref r_0), some (.int x_1), some (.int x_2), some (.int x_3), some (.int x_4), some (.int x_5), some (.int x_6), some (.int x_7), some (.int x_8), some (.int x_9)] [] h z c s := by
  refine jp_load (pc2 := 114) (n := 7) rfl rfl rfl rfl ?_
  exact jp_if0 (pc2 := 117) rfl rfl K1 K2
theorem b137_117 {r_0 : Nat} {x_1 : Int32} {x_2 : Int32} {x_3 : Int32} {x_4 : Int32} {x_5 : Int32} {x_6 : Int32} {o_7 : Option Value} {x_8 : Int32} {x_9 : Int32} {fs1 : List Value} {q_fs1_0 : Nat} {n4 : Nat} {f5 : Nat → Int32} (e2 : h r_0 = some (.inr (9, fs1))) (e3 : fs1[0]? = some (.ref q_fs1_0)) (e6 : h q_fs1_0 = some (.inl (0, n4, .inl f5))) (b7 : vp_in (x_5 + x_9) n4) (K1 : ¬ (f5 (x_5 + x_9).toNatClampNeg) = x_2 → ip sc call 137 MC MS Q 135 [some (.ref r_0), some (.int x_1), some (.int x_2), some (.int x_3), some (.int x_4), some (.int x_5), some (.int x_6), o_7, some (.int x_8), some (.int x_9)] [] h z c s) (K2 : ¬ (¬ (f5 (x_5 + x_9).toNatClampNeg) = x_2) → ip sc call 137 MC MS Q 131 [some (.ref r_0), some (.int x_1), some (.int x_2), some (.int x_3), some (.int x_4), some (.int x_5), some (.int x_6), o_7, some (.int x_8), some (.int x_9)] [] h z c s) : ip sc call 137 MC MS Q 117 [some (.ref r_0), some (.int x_1), some (.int x_2), some (.int x_3), some (.int x_4), some (.int x_5), some (.int x_6), o_7, some (.int x_8), some (.int x_9)] [] h z c s := by
  refine jp_load (pc2 := 118) (n := 0) rfl rfl rfl rfl ?_
  refine jp_getf (pc2 := 121) rfl rfl e2 e3 ?_
  refine jp_load (pc2 := 123) (n := 5) rfl rfl rfl rfl ?_
  refine jp_load (pc2 := 125) (n := 9) rfl rfl rfl rfl ?_
  refine jp_bin (pc2 := 126) (v := x_5 + x_9) rfl rfl rfl ?_
  refine jp_iald (pc2 := 127) rfl rfl e6 b7 ?_
  refine jp_load (pc2 := 128) (n := 2) rfl rfl rfl rfl ?_
  exact jp_icmp (pc2 := 131) rfl rfl K1 K2
theorem b137_131 {r_0 : Nat} {x_1 : Int32} {x_2 : Int32} {x_3 : Int32} {x_4 : Int32} {x_5 : Int32} {x_6 : Int32} {o_7 : Option Value} {x_8 : Int32} {x_9 : Int32}  (K : ip sc call 137 MC MS Q 136 [some (.ref r_0), some (.int x_1), some (.int x_2), some (.int x_3), some (.int x_4), some (.int x_5), some (.int x_6), o_7, some (.int x_8), some (.int x_9)] [(.int 1)] h z c s) : ip sc call 137 MC MS Q 131 [some (.ref r_0), some (.int x_1), some (.int x_2), some (.int x_3), some (.int x_4), some (.int x_5), some (.int x_6), o_7, some (.int x_8), some (.int x_9)] [] h z c s := by
  refine jp_con (pc2 := 132) (v := .int 1) rfl rfl rfl ?_
  refine ip_goto rfl ?_
  exact K
theorem b137_135 {r_0 : Nat} {x_1 : Int32} {x_2 : Int32} {x_3 : Int32} {x_4 : Int32} {x_5 : Int32} {x_6 : Int32} {o_7 : Option Value} {x_8 : Int32} {x_9 : Int32}  (K : ip sc call 137 MC MS Q 136 [some (.ref r_0), some (.int x_1), some (.int x_2), some (.int x_3), some (.int x_4), some (.int x_5), some (.int x_6), o_7, some (.int x_8), some (.int x_9)] [(.int 0)] h z c s) : ip sc call 137 MC MS Q 135 [some (.ref r_0), some (.int x_1), some (.int x_2), some (.int x_3), some (.int x_4), some (.int x_5), some (.int x_6), o_7, some (.int x_8), some (.int x_9)] [] h z c s := by
  refine jp_con (pc2 := 136) (v := .int 0) rfl rfl rfl ?_
  exact K
theorem b137_136 {r_0 : Nat} {x_1 : Int32} {x_2 : Int32} {x_3 : Int32} {x_4 : Int32} {x_5 : Int32} {x_6 : Int32} {o_7 : Option Value} {x_8 : Int32} {x_9 : Int32} {sx_0 : Int32}  (K : ip sc call 137 MC MS Q 95 [some (.ref r_0), some (.int x_1), some (.int x_2), some (.int x_3), some (.int x_4), some (.int x_5), some (.int x_6), some (.int sx_0), some (.int x_8), some (.int (x_9 + 1))] [] h z c s) : ip sc call 137 MC MS Q 136 [some (.ref r_0), some (.int x_1), some (.int x_2), some (.int x_3), some (.int x_4), some (.int x_5), some (.int x_6), o_7, some (.int x_8), some (.int x_9)] [(.int sx_0)] h z c s := by
  refine jp_store (pc2 := 138) (n := 7) rfl rfl ⟨rfl, rfl⟩ rfl (Nat.le_of_ble_eq_true rfl) ?_
  refine jp_iinc (pc2 := 141) (n := 9) (v := x_9 + 1) rfl rfl rfl rfl rfl ?_
  refine ip_goto rfl ?_
  exact K
theorem b137_144 {r_0 : Nat} {x_1 : Int32} {x_2 : Int32} {x_3 : Int32} {x_4 : Int32} {x_5 : Int32} {x_6 : Int32} {x_7 : Int32} {x_8 : Int32} {o_9 : Option Value} {fs1 : List Value} {q_fs1_0 : Nat} {n4 : Nat} {f5 : Nat → Int32} (e2 : h r_0 = some (.inr (9, fs1))) (e3 : fs1[0]? = some (.ref q_fs1_0)) (e6 : h q_fs1_0 = some (.inl (0, n4, .inl f5))) (b7 : vp_in ((x_1 + 68) + x_4) n4) (K : ip sc call 137 MC MS Q 75 [some (.ref r_0), some (.int x_1), some (.int x_2), some (.int x_3), some (.int (x_4 + 1)), some (.int (x_5 + (f5 ((x_1 + 68) + x_4).toNatClampNeg))), some (.int x_6), some (.int x_7), some (.int (x_8 + 1)), o_9] [] h z c s) : ip sc call 137 MC MS Q 144 [some (.ref r_0), some (.int x_1), some (.int x_2), some (.int x_3), some (.int x_4), some (.int x_5), some (.int x_6), some (.int x_7), some (.int x_8), o_9] [] h z c s := by
  refine jp_load (pc2 := 146) (n := 5) rfl rfl rfl rfl ?_
  refine jp_load (pc2 := 147) (n := 0) rfl rfl rfl rfl ?_
  refine jp_getf (pc2 := 150) rfl rfl e2 e3 ?_
  refine jp_load (pc2 := 151) (n := 1) rfl rfl rfl rfl ?_
  refine jp_con (pc2 := 153) (v := .int 68) rfl rfl rfl ?_
  refine jp_bin (pc2 := 154) (v := x_1 + 68) rfl rfl rfl ?_
  refine jp_load (pc2 := 156) (n := 4) rfl rfl rfl rfl ?_
  refine jp_bin (pc2 := 157) (v := (x_1 + 68) + x_4) rfl rfl rfl ?_
  refine jp_iald (pc2 := 158) rfl rfl e6 b7 ?_
  refine jp_bin (pc2 := 159) (v := x_5 + (f5 ((x_1 + 68) + x_4).toNatClampNeg)) rfl rfl rfl ?_
  refine jp_store (pc2 := 161) (n := 5) rfl rfl ⟨rfl, rfl⟩ rfl (Nat.le_of_ble_eq_true rfl) ?_
  refine jp_iinc (pc2 := 164) (n := 4) (v := x_4 + 1) rfl rfl rfl rfl rfl ?_
  refine jp_iinc (pc2 := 167) (n := 8) (v := x_8 + 1) rfl rfl rfl rfl rfl ?_
  refine ip_goto rfl ?_
  exact K
theorem b137_170 {r_0 : Nat} {x_1 : Int32} {x_2 : Int32} {x_3 : Int32} {x_4 : Int32} {x_5 : Int32} {x_6 : Int32} {x_7 : Int32} {o_8 : Option Value} {o_9 : Option Value}  (K1 : x_7 = 0 → ip sc call 137 MC MS Q 187 [some (.ref r_0), some (.int x_1), some (.int x_2), some (.int x_3), some (.int x_4), some (.int x_5), some (.int x_6), some (.int x_7), o_8, o_9] [] h z c s) (K2 : ¬ (x_7 = 0) → ip sc call 137 MC MS Q 175 [some (.ref r_0), some (.int x_1), some (.int x_2), some (.int x_3), some (.int x_4), some (.int x_5), some (.int x_6), some (.int x_7), o_8, o_9] [] h z c s) : ip sc call 137 MC MS Q 170 [some (.ref r_0), some (.int x_1), some (.int x_2), some (.int x_3), some (.int x_4), some (.int x_5), some (.int x_6), some (.int x_7), o_8, o_9] [] h z c s := by
  refine jp_load (pc2 := 172) (n := 7) rfl rfl rfl rfl ?_
  exact jp_if0 (pc2 := 175) rfl rfl K1 K2
theorem b137_175 {r_0 : Nat} {x_1 : Int32} {x_2 : Int32} {x_3 : Int32} {x_4 : Int32} {x_5 : Int32} {x_6 : Int32} {x_7 : Int32} {o_8 : Option Value} {o_9 : Option Value}  (K1 : x_3 < 0 → ip sc call 137 MC MS Q 187 [some (.ref r_0), some (.int x_1), some (.int x_2), some (.int x_3), some (.int x_4), some (.int x_5), some (.int x_6), some (.int x_7), o_8, o_9] [] h z c s) (K2 : ¬ (x_3 < 0) → ip sc call 137 MC MS Q 179 [some (.ref r_0), some (.int x_1), some (.int x_2), some (.int x_3), some (.int x_4), some (.int x_5), some (.int x_6), some (.int x_7), o_8, o_9] [] h z c s) : ip sc call 137 MC MS Q 175 [some (.ref r_0), some (.int x_1), some (.int x_2), some (.int x_3), some (.int x_4), some (.int x_5), some (.int x_6), some (.int x_7), o_8, o_9] [] h z c s := by
  refine jp_load (pc2 := 176) (n := 3) rfl rfl rfl rfl ?_
  exact jp_if0 (pc2 := 179) rfl rfl K1 K2
theorem b137_179 {r_0 : Nat} {x_1 : Int32} {x_2 : Int32} {x_3 : Int32} {x_4 : Int32} {x_5 : Int32} {x_6 : Int32} {x_7 : Int32} {o_8 : Option Value} {o_9 : Option Value} {fs1 : List Value} {P : ipQ} (e2 : h r_0 = some (.inr (9, fs1))) (m3 : c ≤ MC) (m4 : s ≤ MS) (hc : call 138 [(.ref r_0), (.int x_1), (.int x_3), (.int x_6)] h z 0 0 P) (K : ∀ (o : Option Value) (h2 : HP) (z2 : Nat), P o h2 z2 → ip sc call 137 MC MS Q 187 [some (.ref r_0), some (.int x_1), some (.int x_2), some (.int x_3), some (.int x_4), some (.int x_5), some (.int x_6), some (.int x_7), o_8, o_9] (o.toList ++ []) h2 z2 c s) : ip sc call 137 MC MS Q 179 [some (.ref r_0), some (.int x_1), some (.int x_2), some (.int x_3), some (.int x_4), some (.int x_5), some (.int x_6), some (.int x_7), o_8, o_9] [] h z c s := by
  refine jp_load (pc2 := 180) (n := 0) rfl rfl rfl rfl ?_
  refine jp_load (pc2 := 181) (n := 1) rfl rfl rfl rfl ?_
  refine jp_load (pc2 := 182) (n := 3) rfl rfl rfl rfl ?_
  refine jp_load (pc2 := 184) (n := 6) rfl rfl rfl rfl ?_
  exact jp_virt0 (pc2 := 187) (As := [(.int x_1), (.int x_3), (.int x_6)]) (rest := []) rfl rfl rfl (Nat.le_of_ble_eq_true rfl) e2 m3 m4 hc rfl K
theorem b137_187 {r_0 : Nat} {x_1 : Int32} {x_2 : Int32} {x_3 : Int32} {x_4 : Int32} {x_5 : Int32} {x_6 : Int32} {x_7 : Int32} {o_8 : Option Value} {o_9 : Option Value}  (K1 : x_7 = 0 → ip sc call 137 MC MS Q 199 [some (.ref r_0), some (.int x_1), some (.int x_2), some (.int x_3), some (.int x_4), some (.int x_5), some (.int x_6), some (.int x_7), o_8, o_9] [] h z c s) (K2 : ¬ (x_7 = 0) → ip sc call 137 MC MS Q 192 [some (.ref r_0), some (.int x_1), some (.int x_2), some (.int x_3), some (.int x_4), some (.int x_5), some (.int x_6), some (.int x_7), o_8, o_9] [] h z c s) : ip sc call 137 MC MS Q 187 [some (.ref r_0), some (.int x_1), some (.int x_2), some (.int x_3), some (.int x_4), some (.int x_5), some (.int x_6), some (.int x_7), o_8, o_9] [] h z c s := by
  refine jp_load (pc2 := 189) (n := 7) rfl rfl rfl rfl ?_
  exact jp_if0 (pc2 := 192) rfl rfl K1 K2
theorem b137_192 {r_0 : Nat} {x_1 : Int32} {x_2 : Int32} {x_3 : Int32} {x_4 : Int32} {x_5 : Int32} {x_6 : Int32} {o_7 : Option Value} {o_8 : Option Value} {o_9 : Option Value}  (K1 : (0 : Int32) ≤ x_3 → ip sc call 137 MC MS Q 199 [some (.ref r_0), some (.int x_1), some (.int x_2), some (.int x_3), some (.int x_4), some (.int x_5), some (.int x_6), o_7, o_8, o_9] [] h z c s) (K2 : ¬ ((0 : Int32) ≤ x_3) → ip sc call 137 MC MS Q 196 [some (.ref r_0), some (.int x_1), some (.int x_2), some (.int x_3), some (.int x_4), some (.int x_5), some (.int x_6), o_7, o_8, o_9] [] h z c s) : ip sc call 137 MC MS Q 192 [some (.ref r_0), some (.int x_1), some (.int x_2), some (.int x_3), some (.int x_4), some (.int x_5), some (.int x_6), o_7, o_8, o_9] [] h z c s := by
  refine jp_load (pc2 := 193) (n := 3) rfl rfl rfl rfl ?_
  exact jp_if0 (pc2 := 196) rfl rfl K1 K2
theorem b137_196 {r_0 : Nat} {x_1 : Int32} {x_2 : Int32} {o_3 : Option Value} {x_4 : Int32} {x_5 : Int32} {x_6 : Int32} {o_7 : Option Value} {o_8 : Option Value} {o_9 : Option Value}  (K : ip sc call 137 MC MS Q 199 [some (.ref r_0), some (.int x_1), some (.int x_2), some (.int x_6), some (.int x_4), some (.int x_5), some (.int x_6), o_7, o_8, o_9] [] h z c s) : ip sc call 137 MC MS Q 196 [some (.ref r_0), some (.int x_1), some (.int x_2), o_3, some (.int x_4), some (.int x_5), some (.int x_6), o_7, o_8, o_9] [] h z c s := by
  refine jp_load (pc2 := 198) (n := 6) rfl rfl rfl rfl ?_
  refine jp_store (pc2 := 199) (n := 3) rfl rfl ⟨rfl, rfl⟩ rfl (Nat.le_of_ble_eq_true rfl) ?_
  exact K
theorem b137_199 {r_0 : Nat} {x_1 : Int32} {x_2 : Int32} {x_3 : Int32} {x_4 : Int32} {x_5 : Int32} {x_6 : Int32} {o_7 : Option Value} {o_8 : Option Value} {o_9 : Option Value}  (K : ip sc call 137 MC MS Q 56 [some (.ref r_0), some (.int x_1), some (.int x_2), some (.int x_3), some (.int x_4), some (.int x_5), some (.int (x_6 + 1)), o_7, o_8, o_9] [] h z c s) : ip sc call 137 MC MS Q 199 [some (.ref r_0), some (.int x_1), some (.int x_2), some (.int x_3), some (.int x_4), some (.int x_5), some (.int x_6), o_7, o_8, o_9] [] h z c s := by
  refine jp_iinc (pc2 := 202) (n := 6) (v := x_6 + 1) rfl rfl rfl rfl rfl ?_
  refine ip_goto rfl ?_
  exact K
theorem b137_205 {r_0 : Nat} {x_1 : Int32} {x_2 : Int32} {o_3 : Option Value} {o_4 : Option Value} {o_5 : Option Value} {o_6 : Option Value} {o_7 : Option Value} {o_8 : Option Value} {o_9 : Option Value}  (K : ip sc call 137 MC MS Q 29 [some (.ref r_0), some (.int x_1), some (.int (x_2 + 1)), o_3, o_4, o_5, o_6, o_7, o_8, o_9] [] h z c s) : ip sc call 137 MC MS Q 205 [some (.ref r_0), some (.int x_1), some (.int x_2), o_3, o_4, o_5, o_6, o_7, o_8, o_9] [] h z c s := by
  refine jp_iinc (pc2 := 208) (n := 2) (v := x_2 + 1) rfl rfl rfl rfl rfl ?_
  refine ip_goto rfl ?_
  exact K
theorem b137_211 {o_0 : Option Value} {o_1 : Option Value} {o_2 : Option Value} {o_3 : Option Value} {o_4 : Option Value} {o_5 : Option Value} {o_6 : Option Value} {o_7 : Option Value} {o_8 : Option Value} {o_9 : Option Value} (q1 : Q none h z)  : ip sc call 137 MC MS Q 211 [o_0, o_1, o_2, o_3, o_4, o_5, o_6, o_7, o_8, o_9] [] h z c s := by
  exact ip_vret (st := []) rfl rfl q1
theorem b138_0 {r_0 : Nat} {x_1 : Int32} {x_2 : Int32} {x_3 : Int32} {o_4 : Option Value} {o_5 : Option Value} {o_6 : Option Value} {fs1 : List Value} {q_fs1_13 : Nat} {n4 : Nat} {f5 : Nat → Int32} (e2 : h r_0 = some (.inr (9, fs1))) (e3 : fs1[13]? = some (.ref q_fs1_13)) (e6 : h q_fs1_13 = some (.inl (0, n4, .inl f5))) (b7 : vp_in x_2 n4) (b8 : vp_in x_3 n4) (K1 : (f5 x_3.toNatClampNeg) ≤ (f5 x_2.toNatClampNeg) → ip sc call 138 MC MS Q 24 [some (.ref r_0), some (.int x_1), some (.int x_2), some (.int x_3), o_4, o_5, o_6] [] h z c s) (K2 : ¬ ((f5 x_3.toNatClampNeg) ≤ (f5 x_2.toNatClampNeg)) → ip sc call 138 MC MS Q 15 [some (.ref r_0), some (.int x_1), some (.int x_2), some (.int x_3), o_4, o_5, o_6] [] h z c s) : ip sc call 138 MC MS Q 0 [some (.ref r_0), some (.int x_1), some (.int x_2), some (.int x_3), o_4, o_5, o_6] [] h z c s := by
  refine jp_load (pc2 := 1) (n := 0) rfl rfl rfl rfl ?_
  refine jp_getf (pc2 := 4) rfl rfl e2 e3 ?_
  refine jp_load (pc2 := 5) (n := 2) rfl rfl rfl rfl ?_
  refine jp_iald (pc2 := 6) rfl rfl e6 b7 ?_
  refine jp_load (pc2 := 7) (n := 0) rfl rfl rfl rfl ?_
  refine jp_getf (pc2 := 10) rfl rfl e2 e3 ?_
  refine jp_load (pc2 := 11) (n := 3) rfl rfl rfl rfl ?_
  refine jp_iald (pc2 := 12) rfl rfl e6 b8 ?_
  exact jp_icmp (pc2 := 15) rfl rfl K1 K2
theorem b138_15 {r_0 : Nat} {x_1 : Int32} {x_2 : Int32} {x_3 : Int32} {o_4 : Option Value} {o_5 : Option Value} {o_6 : Option Value} {fs1 : List Value} {q_fs1_13 : Nat} {n4 : Nat} {f5 : Nat → Int32} (e2 : h r_0 = some (.inr (9, fs1))) (e3 : fs1[13]? = some (.ref q_fs1_13)) (e6 : h q_fs1_13 = some (.inl (0, n4, .inl f5))) (b7 : vp_in x_2 n4) (K : ip sc call 138 MC MS Q 30 [some (.ref r_0), some (.int x_1), some (.int x_2), some (.int x_3), o_4, o_5, o_6] [(.int (f5 x_2.toNatClampNeg))] h z c s) : ip sc call 138 MC MS Q 15 [some (.ref r_0), some (.int x_1), some (.int x_2), some (.int x_3), o_4, o_5, o_6] [] h z c s := by
  refine jp_load (pc2 := 16) (n := 0) rfl rfl rfl rfl ?_
  refine jp_getf (pc2 := 19) rfl rfl e2 e3 ?_
  refine jp_load (pc2 := 20) (n := 2) rfl rfl rfl rfl ?_
  refine jp_iald (pc2 := 21) rfl rfl e6 b7 ?_
  refine ip_goto rfl ?_
  exact K
theorem b138_24 {r_0 : Nat} {x_1 : Int32} {x_2 : Int32} {x_3 : Int32} {o_4 : Option Value} {o_5 : Option Value} {o_6 : Option Value} {fs1 : List Value} {q_fs1_13 : Nat} {n4 : Nat} {f5 : Nat → Int32} (e2 : h r_0 = some (.inr (9, fs1))) (e3 : fs1[13]? = some (.ref q_fs1_13)) (e6 : h q_fs1_13 = some (.inl (0, n4, .inl f5))) (b7 : vp_in x_3 n4) (K : ip sc call 138 MC MS Q 30 [some (.ref r_0), some (.int x_1), some (.int x_2), some (.int x_3), o_4, o_5, o_6] [(.int (f5 x_3.toNatClampNeg))] h z c s) : ip sc call 138 MC MS Q 24 [some (.ref r_0), some (.int x_1), some (.int x_2), some (.int x_3), o_4, o_5, o_6] [] h z c s := by
  refine jp_load (pc2 := 25) (n := 0) rfl rfl rfl rfl ?_
  refine jp_getf (pc2 := 28) rfl rfl e2 e3 ?_
  refine jp_load (pc2 := 29) (n := 3) rfl rfl rfl rfl ?_
  refine jp_iald (pc2 := 30) rfl rfl e6 b7 ?_
  exact K
theorem b138_30 {r_0 : Nat} {x_1 : Int32} {x_2 : Int32} {x_3 : Int32} {o_4 : Option Value} {o_5 : Option Value} {o_6 : Option Value} {sx_0 : Int32} {fs1 : List Value} {q_fs1_13 : Nat} {n4 : Nat} {f5 : Nat → Int32} (e2 : h r_0 = some (.inr (9, fs1))) (e3 : fs1[13]? = some (.ref q_fs1_13)) (e6 : h q_fs1_13 = some (.inl (0, n4, .inl f5))) (b7 : vp_in x_2 n4) (b8 : vp_in x_3 n4) (K1 : (f5 x_3.toNatClampNeg) ≤ (f5 x_2.toNatClampNeg) → ip sc call 138 MC MS Q 56 [some (.ref r_0), some (.int x_1), some (.int x_2), some (.int x_3), some (.int sx_0), o_5, o_6] [] h z c s) (K2 : ¬ ((f5 x_3.toNatClampNeg) ≤ (f5 x_2.toNatClampNeg)) → ip sc call 138 MC MS Q 47 [some (.ref r_0), some (.int x_1), some (.int x_2), some (.int x_3), some (.int sx_0), o_5, o_6] [] h z c s) : ip sc call 138 MC MS Q 30 [some (.ref r_0), some (.int x_1), some (.int x_2), some (.int x_3), o_4, o_5, o_6] [(.int sx_0)] h z c s := by
  refine jp_store (pc2 := 32) (n := 4) rfl rfl ⟨rfl, rfl⟩ rfl (Nat.le_of_ble_eq_true rfl) ?_
  refine jp_load (pc2 := 33) (n := 0) rfl rfl rfl rfl ?_
  refine jp_getf (pc2 := 36) rfl rfl e2 e3 ?_
  refine jp_load (pc2 := 37) (n := 2) rfl rfl rfl rfl ?_
  refine jp_iald (pc2 := 38) rfl rfl e6 b7 ?_
  refine jp_load (pc2 := 39) (n := 0) rfl rfl rfl rfl ?_
  refine jp_getf (pc2 := 42) rfl rfl e2 e3 ?_
  refine jp_load (pc2 := 43) (n := 3) rfl rfl rfl rfl ?_
  refine jp_iald (pc2 := 44) rfl rfl e6 b8 ?_
  exact jp_icmp (pc2 := 47) rfl rfl K1 K2
theorem b138_47 {r_0 : Nat} {x_1 : Int32} {o_2 : Option Value} {x_3 : Int32} {x_4 : Int32} {o_5 : Option Value} {o_6 : Option Value} {fs1 : List Value} {q_fs1_13 : Nat} {n4 : Nat} {f5 : Nat → Int32} (e2 : h r_0 = some (.inr (9, fs1))) (e3 : fs1[13]? = some (.ref q_fs1_13)) (e6 : h q_fs1_13 = some (.inl (0, n4, .inl f5))) (b7 : vp_in x_3 n4) (K : ip sc call 138 MC MS Q 62 [some (.ref r_0), some (.int x_1), o_2, some (.int x_3), some (.int x_4), o_5, o_6] [(.int (f5 x_3.toNatClampNeg))] h z c s) : ip sc call 138 MC MS Q 47 [some (.ref r_0), some (.int x_1), o_2, some (.int x_3), some (.int x_4), o_5, o_6] [] h z c s := by
  refine jp_load (pc2 := 48) (n := 0) rfl rfl rfl rfl ?_
  refine jp_getf (pc2 := 51) rfl rfl e2 e3 ?_
  refine jp_load (pc2 := 52) (n := 3) rfl rfl rfl rfl ?_
  refine jp_iald (pc2 := 53) rfl rfl e6 b7 ?_
  refine ip_goto rfl ?_
  exact K
theorem b138_56 {r_0 : Nat} {x_1 : Int32} {x_2 : Int32} {o_3 : Option Value} {x_4 : Int32} {o_5 : Option Value} {o_6 : Option Value} {fs1 : List Value} {q_fs1_13 : Nat} {n4 : Nat} {f5 : Nat → Int32} (e2 : h r_0 = some (.inr (9, fs1))) (e3 : fs1[13]? = some (.ref q_fs1_13)) (e6 : h q_fs1_13 = some (.inl (0, n4, .inl f5))) (b7 : vp_in x_2 n4) (K : ip sc call 138 MC MS Q 62 [some (.ref r_0), some (.int x_1), some (.int x_2), o_3, some (.int x_4), o_5, o_6] [(.int (f5 x_2.toNatClampNeg))] h z c s) : ip sc call 138 MC MS Q 56 [some (.ref r_0), some (.int x_1), some (.int x_2), o_3, some (.int x_4), o_5, o_6] [] h z c s := by
  refine jp_load (pc2 := 57) (n := 0) rfl rfl rfl rfl ?_
  refine jp_getf (pc2 := 60) rfl rfl e2 e3 ?_
  refine jp_load (pc2 := 61) (n := 2) rfl rfl rfl rfl ?_
  refine jp_iald (pc2 := 62) rfl rfl e6 b7 ?_
  exact K
theorem b138_62 {r_0 : Nat} {x_1 : Int32} {o_2 : Option Value} {o_3 : Option Value} {x_4 : Int32} {o_5 : Option Value} {o_6 : Option Value} {sx_0 : Int32}  (K : ip sc call 138 MC MS Q 67 [some (.ref r_0), some (.int x_1), o_2, o_3, some (.int x_4), some (.int sx_0), some (.int 0)] [] h z c s) : ip sc call 138 MC MS Q 62 [some (.ref r_0), some (.int x_1), o_2, o_3, some (.int x_4), o_5, o_6] [(.int sx_0)] h z c s := by
  refine jp_store (pc2 := 64) (n := 5) rfl rfl ⟨rfl, rfl⟩ rfl (Nat.le_of_ble_eq_true rfl) ?_
  refine jp_con (pc2 := 65) (v := .int 0) rfl rfl rfl ?_
  refine jp_store (pc2 := 67) (n := 6) rfl rfl ⟨rfl, rfl⟩ rfl (Nat.le_of_ble_eq_true rfl) ?_
  exact K
theorem b138_67 {r_0 : Nat} {x_1 : Int32} {o_2 : Option Value} {o_3 : Option Value} {x_4 : Int32} {x_5 : Int32} {x_6 : Int32} {fs1 : List Value} {q_fs1_0 : Nat} {n4 : Nat} {f5 : Nat → Int32} (e2 : h r_0 = some (.inr (9, fs1))) (e3 : fs1[0]? = some (.ref q_fs1_0)) (e6 : h q_fs1_0 = some (.inl (0, n4, .inl f5))) (b7 : vp_in (x_1 + 1) n4) (K1 : (f5 (x_1 + 1).toNatClampNeg) ≤ x_6 → ip sc call 138 MC MS Q 107 [some (.ref r_0), some (.int x_1), o_2, o_3, some (.int x_4), some (.int x_5), some (.int x_6)] [] h z c s) (K2 : ¬ ((f5 (x_1 + 1).toNatClampNeg) ≤ x_6) → ip sc call 138 MC MS Q 80 [some (.ref r_0), some (.int x_1), o_2, o_3, some (.int x_4), some (.int x_5), some (.int x_6)] [] h z c s) : ip sc call 138 MC MS Q 67 [some (.ref r_0), some (.int x_1), o_2, o_3, some (.int x_4), some (.int x_5), some (.int x_6)] [] h z c s := by
  refine jp_load (pc2 := 69) (n := 6) rfl rfl rfl rfl ?_
  refine jp_load (pc2 := 70) (n := 0) rfl rfl rfl rfl ?_
  refine jp_getf (pc2 := 73) rfl rfl e2 e3 ?_
  refine jp_load (pc2 := 74) (n := 1) rfl rfl rfl rfl ?_
  refine jp_con (pc2 := 75) (v := .int 1) rfl rfl rfl ?_
  refine jp_bin (pc2 := 76) (v := x_1 + 1) rfl rfl rfl ?_
  refine jp_iald (pc2 := 77) rfl rfl e6 b7 ?_
  exact jp_icmp (pc2 := 80) rfl rfl K1 K2
theorem b138_80 {r_0 : Nat} {x_1 : Int32} {o_2 : Option Value} {o_3 : Option Value} {x_4 : Int32} {x_5 : Int32} {x_6 : Int32} {fs1 : List Value} {q_fs1_13 : Nat} {n4 : Nat} {f5 : Nat → Int32} (e2 : h r_0 = some (.inr (9, fs1))) (e3 : fs1[13]? = some (.ref q_fs1_13)) (e6 : h q_fs1_13 = some (.inl (0, n4, .inl f5))) (b7 : vp_in x_6 n4) (K1 : ¬ (f5 x_6.toNatClampNeg) = x_5 → ip sc call 138 MC MS Q 101 [some (.ref r_0), some (.int x_1), o_2, o_3, some (.int x_4), some (.int x_5), some (.int x_6)] [] h z c s) (K2 : ¬ (¬ (f5 x_6.toNatClampNeg) = x_5) → ip sc call 138 MC MS Q 92 [some (.ref r_0), some (.int x_1), o_2, o_3, some (.int x_4), some (.int x_5), some (.int x_6)] [] h z c s) : ip sc call 138 MC MS Q 80 [some (.ref r_0), some (.int x_1), o_2, o_3, some (.int x_4), some (.int x_5), some (.int x_6)] [] h z c s := by
  refine jp_load (pc2 := 81) (n := 0) rfl rfl rfl rfl ?_
  refine jp_getf (pc2 := 84) rfl rfl e2 e3 ?_
  refine jp_load (pc2 := 86) (n := 6) rfl rfl rfl rfl ?_
  refine jp_iald (pc2 := 87) rfl rfl e6 b7 ?_
  refine jp_load (pc2 := 89) (n := 5) rfl rfl rfl rfl ?_
  exact jp_icmp (pc2 := 92) rfl rfl K1 K2
theorem b138_92 {r_0 : Nat} {x_1 : Int32} {o_2 : Option Value} {o_3 : Option Value} {x_4 : Int32} {x_5 : Int32} {x_6 : Int32} {fs1 : List Value} {q_fs1_13 : Nat} {n4 : Nat} {f5 : Nat → Int32} (e2 : h r_0 = some (.inr (9, fs1))) (e3 : fs1[13]? = some (.ref q_fs1_13)) (e6 : h q_fs1_13 = some (.inl (0, n4, .inl f5))) (b7 : vp_in x_6 n4) (K : ip sc call 138 MC MS Q 101 [some (.ref r_0), some (.int x_1), o_2, o_3, some (.int x_4), some (.int x_5), some (.int x_6)] [] (hup h q_fs1_13 (.inl (0, n4, .inl (upd f5 x_6.toNatClampNeg x_4)))) z c s) : ip sc call 138 MC MS Q 92 [some (.ref r_0), some (.int x_1), o_2, o_3, some (.int x_4), some (.int x_5), some (.int x_6)] [] h z c s := by
  refine jp_load (pc2 := 93) (n := 0) rfl rfl rfl rfl ?_
  refine jp_getf (pc2 := 96) rfl rfl e2 e3 ?_
  refine jp_load (pc2 := 98) (n := 6) rfl rfl rfl rfl ?_
  refine jp_load (pc2 := 100) (n := 4) rfl rfl rfl rfl ?_
  refine jp_iast (pc2 := 101) rfl rfl e6 b7 ?_
  exact K
theorem b138_101 {r_0 : Nat} {x_1 : Int32} {o_2 : Option Value} {o_3 : Option Value} {x_4 : Int32} {x_5 : Int32} {x_6 : Int32}  (K : ip sc call 138 MC MS Q 67 [some (.ref r_0), some (.int x_1), o_2, o_3, some (.int x_4), some (.int x_5), some (.int (x_6 + 1))] [] h z c s) : ip sc call 138 MC MS Q 101 [some (.ref r_0), some (.int x_1), o_2, o_3, some (.int x_4), some (.int x_5), some (.int x_6)] [] h z c s := by
  refine jp_iinc (pc2 := 104) (n := 6) (v := x_6 + 1) rfl rfl rfl rfl rfl ?_
  refine ip_goto rfl ?_
  exact K
theorem b138_107 {o_0 : Option Value} {o_1 : Option Value} {o_2 : Option Value} {o_3 : Option Value} {o_4 : Option Value} {o_5 : Option Value} {o_6 : Option Value} (q1 : Q none h z)  : ip sc call 138 MC MS Q 107 [o_0, o_1, o_2, o_3, o_4, o_5, o_6] [] h z c s := by
  exact ip_vret (st := []) rfl rfl q1
set_option maxRecDepth 100000 in
theorem b139_0 {r_0 : Nat} {x_1 : Int32} {x_2 : Int32} {x_3 : Int32} {o_4 : Option Value} {o_5 : Option Value} {o_6 : Option Value} {o_7 : Option Value} {o_8 : Option Value} {o_9 : Option Value} {o_10 : Option Value} {fs1 : List Value} {P : ipQ} (e2 : h r_0 = some (.inr (9, fs1))) (m3 : c ≤ MC) (m4 : s ≤ MS) (hc : call 107 [(.ref r_0), (.int x_2)] h z 0 0 P) (K : ∀ (o : Option Value) (h2 : HP) (z2 : Nat), P o h2 z2 → ip sc call 139 MC MS Q 5 [some (.ref r_0), some (.int x_1), some (.int x_2), some (.int x_3), o_4, o_5, o_6, o_7, o_8, o_9, o_10] (o.toList ++ []) h2 z2 c s) : ip sc call 139 MC MS Q 0 [some (.ref r_0), some (.int x_1), some (.int x_2), some (.int x_3), o_4, o_5, o_6, o_7, o_8, o_9, o_10] [] h z c s := by
  refine jp_load (pc2 := 1) (n := 0) rfl rfl rfl rfl ?_
  refine jp_load (pc2 := 2) (n := 2) rfl rfl rfl rfl ?_
  exact jp_virt0 (pc2 := 5) (As := [(.int x_2)]) (rest := []) rfl rfl rfl (Nat.le_of_ble_eq_true rfl) e2 m3 m4 hc rfl K
set_option maxRecDepth 100000 in
theorem b139_5 {r_0 : Nat} {x_1 : Int32} {x_2 : Int32} {x_3 : Int32} {o_4 : Option Value} {o_5 : Option Value} {o_6 : Option Value} {o_7 : Option Value} {o_8 : Option Value} {o_9 : Option Value} {o_10 : Option Value}  (K : ip sc call 139 MC MS Q 8 [some (.ref r_0), some (.int x_1), some (.int x_2), some (.int x_3), some (.int 0), o_5, o_6, o_7, o_8, o_9, o_10] [] h z c s) : ip sc call 139 MC MS Q 5 [some (.ref r_0), some (.int x_1), some (.int x_2), some (.int x_3), o_4, o_5, o_6, o_7, o_8, o_9, o_10] [] h z c s := by
  refine jp_con (pc2 := 6) (v := .int 0) rfl rfl rfl ?_
  refine jp_store (pc2 := 8) (n := 4) rfl rfl ⟨rfl, rfl⟩ rfl (Nat.le_of_ble_eq_true rfl) ?_
  exact K
set_option maxRecDepth 100000 in
theorem b139_8 {r_0 : Nat} {x_1 : Int32} {x_2 : Int32} {x_3 : Int32} {x_4 : Int32} {o_5 : Option Value} {o_6 : Option Value} {o_7 : Option Value} {o_8 : Option Value} {o_9 : Option Value} {o_10 : Option Value} {fs1 : List Value} {q_fs1_0 : Nat} {n4 : Nat} {f5 : Nat → Int32} (e2 : h r_0 = some (.inr (9, fs1))) (e3 : fs1[0]? = some (.ref q_fs1_0)) (e6 : h q_fs1_0 = some (.inl (0, n4, .inl f5))) (b7 : vp_in (x_1 + 0) n4) (K1 : (f5 (x_1 + 0).toNatClampNeg) ≤ x_4 → ip sc call 139 MC MS Q 35 [some (.ref r_0), some (.int x_1), some (.int x_2), some (.int x_3), some (.int x_4), o_5, o_6, o_7, o_8, o_9, o_10] [] h z c s) (K2 : ¬ ((f5 (x_1 + 0).toNatClampNeg) ≤ x_4) → ip sc call 139 MC MS Q 21 [some (.ref r_0), some (.int x_1), some (.int x_2), some (.int x_3), some (.int x_4), o_5, o_6, o_7, o_8, o_9, o_10] [] h z c s) : ip sc call 139 MC MS Q 8 [some (.ref r_0), some (.int x_1), some (.int x_2), some (.int x_3), some (.int x_4), o_5, o_6, o_7, o_8, o_9, o_10] [] h z c s := by
  refine jp_load (pc2 := 10) (n := 4) rfl rfl rfl rfl ?_
  refine jp_load (pc2 := 11) (n := 0) rfl rfl rfl rfl ?_
  refine jp_getf (pc2 := 14) rfl rfl e2 e3 ?_
  refine jp_load (pc2 := 15) (n := 1) rfl rfl rfl rfl ?_
  refine jp_con (pc2 := 16) (v := .int 0) rfl rfl rfl ?_
  refine jp_bin (pc2 := 17) (v := x_1 + 0) rfl rfl rfl ?_
  refine jp_iald (pc2 := 18) rfl rfl e6 b7 ?_
  exact jp_icmp (pc2 := 21) rfl rfl K1 K2
set_option maxRecDepth 100000 in
theorem b139_21 {r_0 : Nat} {x_1 : Int32} {x_2 : Int32} {x_3 : Int32} {x_4 : Int32} {o_5 : Option Value} {o_6 : Option Value} {o_7 : Option Value} {o_8 : Option Value} {o_9 : Option Value} {o_10 : Option Value} {fs1 : List Value} {q_fs1_12 : Nat} {n4 : Nat} {f5 : Nat → Int32} (e2 : h r_0 = some (.inr (9, fs1))) (e3 : fs1[12]? = some (.ref q_fs1_12)) (e6 : h q_fs1_12 = some (.inl (0, n4, .inl f5))) (b7 : vp_in x_4 n4) (K : ip sc call 139 MC MS Q 8 [some (.ref r_0), some (.int x_1), some (.int x_2), some (.int x_3), some (.int (x_4 + 1)), o_5, o_6, o_7, o_8, o_9, o_10] [] (hup h q_fs1_12 (.inl (0, n4, .inl (upd f5 x_4.toNatClampNeg ((-1)))))) z c s) : ip sc call 139 MC MS Q 21 [some (.ref r_0), some (.int x_1), some (.int x_2), some (.int x_3), some (.int x_4), o_5, o_6, o_7, o_8, o_9, o_10] [] h z c s := by
  refine jp_load (pc2 := 22) (n := 0) rfl rfl rfl rfl ?_
  refine jp_getf (pc2 := 25) rfl rfl e2 e3 ?_
  refine jp_load (pc2 := 27) (n := 4) rfl rfl rfl rfl ?_
  refine jp_con (pc2 := 28) (v := .int (-1)) rfl rfl rfl ?_
  refine jp_iast (pc2 := 29) rfl rfl e6 b7 ?_
  refine jp_iinc (pc2 := 32) (n := 4) (v := x_4 + 1) rfl rfl rfl rfl rfl ?_
  refine ip_goto rfl ?_
  exact K
set_option maxRecDepth 100000 in
theorem b139_35 {r_0 : Nat} {x_1 : Int32} {x_2 : Int32} {x_3 : Int32} {o_4 : Option Value} {o_5 : Option Value} {o_6 : Option Value} {o_7 : Option Value} {o_8 : Option Value} {o_9 : Option Value} {o_10 : Option Value}  (K : ip sc call 139 MC MS Q 48 [some (.ref r_0), some (.int x_1), some (.int x_2), some (.int x_3), some (.int 0), some (.int (x_1 + 132)), some (.int 0), o_7, o_8, o_9, o_10] [] h z c s) : ip sc call 139 MC MS Q 35 [some (.ref r_0), some (.int x_1), some (.int x_2), some (.int x_3), o_4, o_5, o_6, o_7, o_8, o_9, o_10] [] h z c s := by
  refine jp_con (pc2 := 36) (v := .int 0) rfl rfl rfl ?_
  refine jp_store (pc2 := 38) (n := 4) rfl rfl ⟨rfl, rfl⟩ rfl (Nat.le_of_ble_eq_true rfl) ?_
  refine jp_load (pc2 := 39) (n := 1) rfl rfl rfl rfl ?_
  refine jp_con (pc2 := 42) (v := .int 132) rfl rfl rfl ?_
  refine jp_bin (pc2 := 43) (v := x_1 + 132) rfl rfl rfl ?_
  refine jp_store (pc2 := 45) (n := 5) rfl rfl ⟨rfl, rfl⟩ rfl (Nat.le_of_ble_eq_true rfl) ?_
  refine jp_con (pc2 := 46) (v := .int 0) rfl rfl rfl ?_
  refine jp_store (pc2 := 48) (n := 6) rfl rfl ⟨rfl, rfl⟩ rfl (Nat.le_of_ble_eq_true rfl) ?_
  exact K
set_option maxRecDepth 100000 in
theorem b139_48 {r_0 : Nat} {x_1 : Int32} {x_2 : Int32} {x_3 : Int32} {x_4 : Int32} {x_5 : Int32} {x_6 : Int32} {o_7 : Option Value} {o_8 : Option Value} {o_9 : Option Value} {o_10 : Option Value} {fs1 : List Value} {q_fs1_0 : Nat} {n4 : Nat} {f5 : Nat → Int32} (e2 : h r_0 = some (.inr (9, fs1))) (e3 : fs1[0]? = some (.ref q_fs1_0)) (e6 : h q_fs1_0 = some (.inl (0, n4, .inl f5))) (b7 : vp_in (x_1 + 1) n4) (K1 : (f5 (x_1 + 1).toNatClampNeg) ≤ x_6 → ip sc call 139 MC MS Q 264 [some (.ref r_0), some (.int x_1), some (.int x_2), some (.int x_3), some (.int x_4), some (.int x_5), some (.int x_6), o_7, o_8, o_9, o_10] [] h z c s) (K2 : ¬ ((f5 (x_1 + 1).toNatClampNeg) ≤ x_6) → ip sc call 139 MC MS Q 61 [some (.ref r_0), some (.int x_1), some (.int x_2), some (.int x_3), some (.int x_4), some (.int x_5), some (.int x_6), o_7, o_8, o_9, o_10] [] h z c s) : ip sc call 139 MC MS Q 48 [some (.ref r_0), some (.int x_1), some (.int x_2), some (.int x_3), some (.int x_4), some (.int x_5), some (.int x_6), o_7, o_8, o_9, o_10] [] h z c s := by
  refine jp_load (pc2 := 50) (n := 6) rfl rfl rfl rfl ?_
  refine jp_load (pc2 := 51) (n := 0) rfl rfl rfl rfl ?_
  refine jp_getf (pc2 := 54) rfl rfl e2 e3 ?_
  refine jp_load (pc2 := 55) (n := 1) rfl rfl rfl rfl ?_
  refine jp_con (pc2 := 56) (v := .int 1) rfl rfl rfl ?_
  refine jp_bin (pc2 := 57) (v := x_1 + 1) rfl rfl rfl ?_
  refine jp_iald (pc2 := 58) rfl rfl e6 b7 ?_
  exact jp_icmp (pc2 := 61) rfl rfl K1 K2
set_option maxRecDepth 100000 in
theorem b139_61 {r_0 : Nat} {x_1 : Int32} {x_2 : Int32} {x_3 : Int32} {x_4 : Int32} {x_5 : Int32} {x_6 : Int32} {o_7 : Option Value} {o_8 : Option Value} {o_9 : Option Value} {o_10 : Option Value} {fs1 : List Value} {q_fs1_13 : Nat} {n4 : Nat} {f5 : Nat → Int32} (e2 : h r_0 = some (.inr (9, fs1))) (e3 : fs1[13]? = some (.ref q_fs1_13)) (e6 : h q_fs1_13 = some (.inl (0, n4, .inl f5))) (b7 : vp_in x_6 n4) (K1 : ¬ (f5 x_6.toNatClampNeg) = x_3 → ip sc call 139 MC MS Q 77 [some (.ref r_0), some (.int x_1), some (.int x_2), some (.int x_3), some (.int x_4), some (.int x_5), some (.int x_6), o_7, o_8, o_9, o_10] [] h z c s) (K2 : ¬ (¬ (f5 x_6.toNatClampNeg) = x_3) → ip sc call 139 MC MS Q 72 [some (.ref r_0), some (.int x_1), some (.int x_2), some (.int x_3), some (.int x_4), some (.int x_5), some (.int x_6), o_7, o_8, o_9, o_10] [] h z c s) : ip sc call 139 MC MS Q 61 [some (.ref r_0), some (.int x_1), some (.int x_2), some (.int x_3), some (.int x_4), some (.int x_5), some (.int x_6), o_7, o_8, o_9, o_10] [] h z c s := by
  refine jp_load (pc2 := 62) (n := 0) rfl rfl rfl rfl ?_
  refine jp_getf (pc2 := 65) rfl rfl e2 e3 ?_
  refine jp_load (pc2 := 67) (n := 6) rfl rfl rfl rfl ?_
  refine jp_iald (pc2 := 68) rfl rfl e6 b7 ?_
  refine jp_load (pc2 := 69) (n := 3) rfl rfl rfl rfl ?_
  exact jp_icmp (pc2 := 72) rfl rfl K1 K2
set_option maxRecDepth 100000 in
theorem b139_72 {r_0 : Nat} {x_1 : Int32} {x_2 : Int32} {x_3 : Int32} {x_4 : Int32} {x_5 : Int32} {x_6 : Int32} {o_7 : Option Value} {o_8 : Option Value} {o_9 : Option Value} {o_10 : Option Value} {fs1 : List Value} {P : ipQ} (e2 : h r_0 = some (.inr (9, fs1))) (m3 : c ≤ MC) (m4 : s ≤ MS) (hc : call 100 [(.ref r_0), (.int x_2)] h z 0 0 P) (K : ∀ (o : Option Value) (h2 : HP) (z2 : Nat), P o h2 z2 → ip sc call 139 MC MS Q 77 [some (.ref r_0), some (.int x_1), some (.int x_2), some (.int x_3), some (.int x_4), some (.int x_5), some (.int x_6), o_7, o_8, o_9, o_10] (o.toList ++ []) h2 z2 c s) : ip sc call 139 MC MS Q 72 [some (.ref r_0), some (.int x_1), some (.int x_2), some (.int x_3), some (.int x_4), some (.int x_5), some (.int x_6), o_7, o_8, o_9, o_10] [] h z c s := by
  refine jp_load (pc2 := 73) (n := 0) rfl rfl rfl rfl ?_
  refine jp_load (pc2 := 74) (n := 2) rfl rfl rfl rfl ?_
  exact jp_virt0 (pc2 := 77) (As := [(.int x_2)]) (rest := []) rfl rfl rfl (Nat.le_of_ble_eq_true rfl) e2 m3 m4 hc rfl K
set_option maxRecDepth 100000 in
theorem b139_77 {r_0 : Nat} {x_1 : Int32} {x_2 : Int32} {x_3 : Int32} {x_4 : Int32} {x_5 : Int32} {x_6 : Int32} {o_7 : Option Value} {o_8 : Option Value} {o_9 : Option Value} {o_10 : Option Value}  (K : ip sc call 139 MC MS Q 80 [some (.ref r_0), some (.int x_1), some (.int x_2), some (.int x_3), some (.int x_4), some (.int x_5), some (.int x_6), some (.int 0), o_8, o_9, o_10] [] h z c s) : ip sc call 139 MC MS Q 77 [some (.ref r_0), some (.int x_1), some (.int x_2), some (.int x_3), some (.int x_4), some (.int x_5), some (.int x_6), o_7, o_8, o_9, o_10] [] h z c s := by
  refine jp_con (pc2 := 78) (v := .int 0) rfl rfl rfl ?_
  refine jp_store (pc2 := 80) (n := 7) rfl rfl ⟨rfl, rfl⟩ rfl (Nat.le_of_ble_eq_true rfl) ?_
  exact K
set_option maxRecDepth 100000 in
theorem b139_80 {r_0 : Nat} {x_1 : Int32} {x_2 : Int32} {x_3 : Int32} {x_4 : Int32} {x_5 : Int32} {x_6 : Int32} {x_7 : Int32} {o_8 : Option Value} {o_9 : Option Value} {o_10 : Option Value} {fs1 : List Value} {q_fs1_0 : Nat} {n4 : Nat} {f5 : Nat → Int32} (e2 : h r_0 = some (.inr (9, fs1))) (e3 : fs1[0]? = some (.ref q_fs1_0)) (e6 : h q_fs1_0 = some (.inl (0, n4, .inl f5))) (b7 : vp_in ((x_1 + 36) + x_6) n4) (K1 : (f5 ((x_1 + 36) + x_6).toNatClampNeg) ≤ x_7 → ip sc call 139 MC MS Q 258 [some (.ref r_0), some (.int x_1), some (.int x_2), some (.int x_3), some (.int x_4), some (.int x_5), some (.int x_6), some (.int x_7), o_8, o_9, o_10] [] h z c s) (K2 : ¬ ((f5 ((x_1 + 36) + x_6).toNatClampNeg) ≤ x_7) → ip sc call 139 MC MS Q 97 [some (.ref r_0), some (.int x_1), some (.int x_2), some (.int x_3), some (.int x_4), some (.int x_5), some (.int x_6), some (.int x_7), o_8, o_9, o_10] [] h z c s) : ip sc call 139 MC MS Q 80 [some (.ref r_0), some (.int x_1), some (.int x_2), some (.int x_3), some (.int x_4), some (.int x_5), some (.int x_6), some (.int x_7), o_8, o_9, o_10] [] h z c s := by
  refine jp_load (pc2 := 82) (n := 7) rfl rfl rfl rfl ?_
  refine jp_load (pc2 := 83) (n := 0) rfl rfl rfl rfl ?_
  refine jp_getf (pc2 := 86) rfl rfl e2 e3 ?_
  refine jp_load (pc2 := 87) (n := 1) rfl rfl rfl rfl ?_
  refine jp_con (pc2 := 89) (v := .int 36) rfl rfl rfl ?_
  refine jp_bin (pc2 := 90) (v := x_1 + 36) rfl rfl rfl ?_
  refine jp_load (pc2 := 92) (n := 6) rfl rfl rfl rfl ?_
  refine jp_bin (pc2 := 93) (v := (x_1 + 36) + x_6) rfl rfl rfl ?_
  refine jp_iald (pc2 := 94) rfl rfl e6 b7 ?_
  exact jp_icmp (pc2 := 97) rfl rfl K1 K2
set_option maxRecDepth 100000 in
theorem b139_97 {r_0 : Nat} {x_1 : Int32} {x_2 : Int32} {x_3 : Int32} {x_4 : Int32} {x_5 : Int32} {x_6 : Int32} {x_7 : Int32} {o_8 : Option Value} {o_9 : Option Value} {o_10 : Option Value} {fs1 : List Value} {q_fs1_0 : Nat} {n4 : Nat} {f5 : Nat → Int32} {q_fs1_13 : Nat} {n9 : Nat} {f10 : Nat → Int32} (e2 : h r_0 = some (.inr (9, fs1))) (e3 : fs1[0]? = some (.ref q_fs1_0)) (e6 : h q_fs1_0 = some (.inl (0, n4, .inl f5))) (b7 : vp_in ((x_1 + 68) + x_4) n4) (e8 : fs1[13]? = some (.ref q_fs1_13)) (e11 : h q_fs1_13 = some (.inl (0, n9, .inl f10))) (b12 : vp_in x_6 n9) (K1 : ¬ (f10 x_6.toNatClampNeg) = x_3 → ip sc call 139 MC MS Q 127 [some (.ref r_0), some (.int x_1), some (.int x_2), some (.int x_3), some (.int x_4), some (.int x_5), some (.int x_6), some (.int x_7), some (.int (f5 ((x_1 + 68) + x_4).toNatClampNeg)), o_9, o_10] [] h z c s) (K2 : ¬ (¬ (f10 x_6.toNatClampNeg) = x_3) → ip sc call 139 MC MS Q 122 [some (.ref r_0), some (.int x_1), some (.int x_2), some (.int x_3), some (.int x_4), some (.int x_5), some (.int x_6), some (.int x_7), some (.int (f5 ((x_1 + 68) + x_4).toNatClampNeg)), o_9, o_10] [] h z c s) : ip sc call 139 MC MS Q 97 [some (.ref r_0), some (.int x_1), some (.int x_2), some (.int x_3), some (.int x_4), some (.int x_5), some (.int x_6), some (.int x_7), o_8, o_9, o_10] [] h z c s := by
  refine jp_load (pc2 := 98) (n := 0) rfl rfl rfl rfl ?_
  refine jp_getf (pc2 := 101) rfl rfl e2 e3 ?_
  refine jp_load (pc2 := 102) (n := 1) rfl rfl rfl rfl ?_
  refine jp_con (pc2 := 104) (v := .int 68) rfl rfl rfl ?_
  refine jp_bin (pc2 := 105) (v := x_1 + 68) rfl rfl rfl ?_
  refine jp_load (pc2 := 107) (n := 4) rfl rfl rfl rfl ?_
  refine jp_bin (pc2 := 108) (v := (x_1 + 68) + x_4) rfl rfl rfl ?_
  refine jp_iald (pc2 := 109) rfl rfl e6 b7 ?_
  refine jp_store (pc2 := 111) (n := 8) rfl rfl ⟨rfl, rfl⟩ rfl (Nat.le_of_ble_eq_true rfl) ?_
  refine jp_load (pc2 := 112) (n := 0) rfl rfl rfl rfl ?_
  refine jp_getf (pc2 := 115) rfl rfl e2 e8 ?_
  refine jp_load (pc2 := 117) (n := 6) rfl rfl rfl rfl ?_
  refine jp_iald (pc2 := 118) rfl rfl e11 b12 ?_
  refine jp_load (pc2 := 119) (n := 3) rfl rfl rfl rfl ?_
  exact jp_icmp (pc2 := 122) rfl rfl K1 K2
set_option maxRecDepth 100000 in
theorem b139_122 {r_0 : Nat} {x_1 : Int32} {x_2 : Int32} {x_3 : Int32} {x_4 : Int32} {x_5 : Int32} {x_6 : Int32} {x_7 : Int32} {x_8 : Int32} {o_9 : Option Value} {o_10 : Option Value} {fs1 : List Value} {P : ipQ} (e2 : h r_0 = some (.inr (9, fs1))) (m3 : c ≤ MC) (m4 : s ≤ MS) (hc : call 99 [(.ref r_0), (.int x_2)] h z 0 0 P) (K : ∀ (o : Option Value) (h2 : HP) (z2 : Nat), P o h2 z2 → ip sc call 139 MC MS Q 127 [some (.ref r_0), some (.int x_1), some (.int x_2), some (.int x_3), some (.int x_4), some (.int x_5), some (.int x_6), some (.int x_7), some (.int x_8), o_9, o_10] (o.toList ++ []) h2 z2 c s) : ip sc call 139 MC MS Q 122 [some (.ref r_0), some (.int x_1), some (.int x_2), some (.int x_3), some (.int x_4), some (.int x_5), some (.int x_6), some (.int x_7), some (.int x_8), o_9, o_10] [] h z c s := by
  refine jp_load (pc2 := 123) (n := 0) rfl rfl rfl rfl ?_
  refine jp_load (pc2 := 124) (n := 2) rfl rfl rfl rfl ?_
  exact jp_virt0 (pc2 := 127) (As := [(.int x_2)]) (rest := []) rfl rfl rfl (Nat.le_of_ble_eq_true rfl) e2 m3 m4 hc rfl K
set_option maxRecDepth 100000 in
theorem b139_127 {r_0 : Nat} {x_1 : Int32} {x_2 : Int32} {x_3 : Int32} {x_4 : Int32} {x_5 : Int32} {x_6 : Int32} {x_7 : Int32} {x_8 : Int32} {o_9 : Option Value} {o_10 : Option Value}  (K : ip sc call 139 MC MS Q 130 [some (.ref r_0), some (.int x_1), some (.int x_2), some (.int x_3), some (.int x_4), some (.int x_5), some (.int x_6), some (.int x_7), some (.int x_8), some (.int 0), o_10] [] h z c s) : ip sc call 139 MC MS Q 127 [some (.ref r_0), some (.int x_1), some (.int x_2), some (.int x_3), some (.int x_4), some (.int x_5), some (.int x_6), some (.int x_7), some (.int x_8), o_9, o_10] [] h z c s := by
  refine jp_con (pc2 := 128) (v := .int 0) rfl rfl rfl ?_
  refine jp_store (pc2 := 130) (n := 9) rfl rfl ⟨rfl, rfl⟩ rfl (Nat.le_of_ble_eq_true rfl) ?_
  exact K
set_option maxRecDepth 100000 in
theorem b139_130 {r_0 : Nat} {x_1 : Int32} {x_2 : Int32} {x_3 : Int32} {x_4 : Int32} {x_5 : Int32} {x_6 : Int32} {x_7 : Int32} {x_8 : Int32} {x_9 : Int32} {o_10 : Option Value}  (K1 : x_8 ≤ x_9 → ip sc call 139 MC MS Q 242 [some (.ref r_0), some (.int x_1), some (.int x_2), some (.int x_3), some (.int x_4), some (.int x_5), some (.int x_6), some (.int x_7), some (.int x_8), some (.int x_9), o_10] [] h z c s) (K2 : ¬ (x_8 ≤ x_9) → ip sc call 139 MC MS Q 137 [some (.ref r_0), some (.int x_1), some (.int x_2), some (.int x_3), some (.int x_4), some (.int x_5), some (.int x_6), some (.int x_7), some (.int x_8), some (.int x_9), o_10] [] h z c s) : ip sc call 139 MC MS Q 130 [some (.ref r_0), some (.int x_1), some (.int x_2), some (.int x_3), some (.int x_4), some (.int x_5), some (.int x_6), some (.int x_7), some (.int x_8), some (.int x_9), o_10] [] h z c s := by
  refine jp_load (pc2 := 132) (n := 9) rfl rfl rfl rfl ?_
  refine jp_load (pc2 := 134) (n := 8) rfl rfl rfl rfl ?_
  exact jp_icmp (pc2 := 137) rfl rfl K1 K2
set_option maxRecDepth 100000 in
theorem b139_137 {r_0 : Nat} {x_1 : Int32} {x_2 : Int32} {x_3 : Int32} {x_4 : Int32} {x_5 : Int32} {x_6 : Int32} {x_7 : Int32} {x_8 : Int32} {x_9 : Int32} {o_10 : Option Value} {fs1 : List Value} {q_fs1_13 : Nat} {n4 : Nat} {f5 : Nat → Int32} (e2 : h r_0 = some (.inr (9, fs1))) (e3 : fs1[13]? = some (.ref q_fs1_13)) (e6 : h q_fs1_13 = some (.inl (0, n4, .inl f5))) (b7 : vp_in x_6 n4) (K1 : ¬ (f5 x_6.toNatClampNeg) = x_3 → ip sc call 139 MC MS Q 242 [some (.ref r_0), some (.int x_1), some (.int x_2), some (.int x_3), some (.int x_4), some (.int x_5), some (.int x_6), some (.int x_7), some (.int x_8), some (.int x_9), o_10] [] h z c s) (K2 : ¬ (¬ (f5 x_6.toNatClampNeg) = x_3) → ip sc call 139 MC MS Q 148 [some (.ref r_0), some (.int x_1), some (.int x_2), some (.int x_3), some (.int x_4), some (.int x_5), some (.int x_6), some (.int x_7), some (.int x_8), some (.int x_9), o_10] [] h z c s) : ip sc call 139 MC MS Q 137 [some (.ref r_0), some (.int x_1), some (.int x_2), some (.int x_3), some (.int x_4), some (.int x_5), some (.int x_6), some (.int x_7), some (.int x_8), some (.int x_9), o_10] [] h z c s := by
  refine jp_load (pc2 := 138) (n := 0) rfl rfl rfl rfl ?_
  refine jp_getf (pc2 := 141) rfl rfl e2 e3 ?_
  refine jp_load (pc2 := 143) (n := 6) rfl rfl rfl rfl ?_
  refine jp_iald (pc2 := 144) rfl rfl e6 b7 ?_
  refine jp_load (pc2 := 145) (n := 3) rfl rfl rfl rfl ?_
  exact jp_icmp (pc2 := 148) rfl rfl K1 K2
set_option maxRecDepth 100000 in
theorem b139_148 {r_0 : Nat} {x_1 : Int32} {x_2 : Int32} {x_3 : Int32} {x_4 : Int32} {x_5 : Int32} {x_6 : Int32} {x_7 : Int32} {x_8 : Int32} {x_9 : Int32} {o_10 : Option Value} {fs1 : List Value} {q_fs1_0 : Nat} {n4 : Nat} {f5 : Nat → Int32} {q_fs1_12 : Nat} {n9 : Nat} {f10 : Nat → Int32} (e2 : h r_0 = some (.inr (9, fs1))) (e3 : fs1[0]? = some (.ref q_fs1_0)) (e6 : h q_fs1_0 = some (.inl (0, n4, .inl f5))) (b7 : vp_in (x_5 + x_9) n4) (e8 : fs1[12]? = some (.ref q_fs1_12)) (e11 : h q_fs1_12 = some (.inl (0, n9, .inl f10))) (b12 : vp_in (f5 (x_5 + x_9).toNatClampNeg) n9) (K1 : (0 : Int32) ≤ (f10 (f5 (x_5 + x_9).toNatClampNeg).toNatClampNeg) → ip sc call 139 MC MS Q 224 [some (.ref r_0), some (.int x_1), some (.int x_2), some (.int x_3), some (.int x_4), some (.int x_5), some (.int x_6), some (.int x_7), some (.int x_8), some (.int x_9), some (.int (f5 (x_5 + x_9).toNatClampNeg))] [] h z c s) (K2 : ¬ ((0 : Int32) ≤ (f10 (f5 (x_5 + x_9).toNatClampNeg).toNatClampNeg)) → ip sc call 139 MC MS Q 170 [some (.ref r_0), some (.int x_1), some (.int x_2), some (.int x_3), some (.int x_4), some (.int x_5), some (.int x_6), some (.int x_7), some (.int x_8), some (.int x_9), some (.int (f5 (x_5 + x_9).toNatClampNeg))] [] h z c s) : ip sc call 139 MC MS Q 148 [some (.ref r_0), some (.int x_1), some (.int x_2), some (.int x_3), some (.int x_4), some (.int x_5), some (.int x_6), some (.int x_7), some (.int x_8), some (.int x_9), o_10] [] h z c s := by
  refine jp_load (pc2 := 149) (n := 0) rfl rfl rfl rfl ?_
  refine jp_getf (pc2 := 152) rfl rfl e2 e3 ?_
  refine jp_load (pc2 := 154) (n := 5) rfl rfl rfl rfl ?_
  refine jp_load (pc2 := 156) (n := 9) rfl rfl rfl rfl ?_
  refine jp_bin (pc2 := 157) (v := x_5 + x_9) rfl rfl rfl ?_
  refine jp_iald (pc2 := 158) rfl rfl e6 b7 ?_
  refine jp_store (pc2 := 160) (n := 10) rfl rfl ⟨rfl, rfl⟩ rfl (Nat.le_of_ble_eq_true rfl) ?_
  refine jp_load (pc2 := 161) (n := 0) rfl rfl rfl rfl ?_
  refine jp_getf (pc2 := 164) rfl rfl e2 e8 ?_
  refine jp_load (pc2 := 166) (n := 10) rfl rfl rfl rfl ?_
  refine jp_iald (pc2 := 167) rfl rfl e11 b12 ?_
  exact jp_if0 (pc2 := 170) rfl rfl K1 K2
set_option maxRecDepth 100000 in
theorem b139_170 {r_0 : Nat} {x_1 : Int32} {x_2 : Int32} {x_3 : Int32} {x_4 : Int32} {x_5 : Int32} {x_6 : Int32} {x_7 : Int32} {x_8 : Int32} {x_9 : Int32} {x_10 : Int32} {fs1 : List Value} {q_fs1_12 : Nat} {q_fs1_0 : Nat} {n5 : Nat} {f6 : Nat → Int32} {n9 : Nat} {f10 : Nat → Int32} (e2 : h r_0 = some (.inr (9, fs1))) (e3 : fs1[12]? = some (.ref q_fs1_12)) (e4 : fs1[0]? = some (.ref q_fs1_0)) (e7 : h q_fs1_0 = some (.inl (0, n5, .inl f6))) (b8 : vp_in (x_2 + 0) n5) (e11 : h q_fs1_12 = some (.inl (0, n9, .inl f10))) (b12 : vp_in x_10 n9) (n13 : r_0 ≠ q_fs1_12) (n14 : q_fs1_0 ≠ q_fs1_12) (b15 : vp_in ((x_1 + 4) + x_10) n5) (b16 : vp_in ((x_2 + 4) + (((upd f10 x_10.toNatClampNeg (f6 (x_2 + 0).toNatClampNeg))) x_10.toNatClampNeg)) n5) (n17 : r_0 ≠ q_fs1_0) (K : ip sc call 139 MC MS Q 224 [some (.ref r_0), some (.int x_1), some (.int x_2), some (.int x_3), some (.int x_4), some (.int x_5), some (.int x_6), some (.int x_7), some (.int x_8), some (.int x_9), some (.int x_10)] [] (hup (hup (hup h q_fs1_12 (.inl (0, n9, .inl (upd f10 x_10.toNatClampNeg (f6 (x_2 + 0).toNatClampNeg))))) q_fs1_0 (.inl (0, n5, .inl (upd f6 ((x_2 + 4) + (((upd f10 x_10.toNatClampNeg (f6 (x_2 + 0).toNatClampNeg))) x_10.toNatClampNeg)).toNatClampNeg (f6 ((x_1 + 4) + x_10).toNatClampNeg))))) q_fs1_0 (.inl (0, n5, .inl (upd ((upd f6 ((x_2 + 4) + (((upd f10 x_10.toNatClampNeg (f6 (x_2 + 0).toNatClampNeg))) x_10.toNatClampNeg)).toNatClampNeg (f6 ((x_1 + 4) + x_10).toNatClampNeg))) (x_2 + 0).toNatClampNeg ((((upd f6 ((x_2 + 4) + (((upd f10 x_10.toNatClampNeg (f6 (x_2 + 0).toNatClampNeg))) x_10.toNatClampNeg)).toNatClampNeg (f6 ((x_1 + 4) + x_10).toNatClampNeg))) (x_2 + 0).toNatClampNeg) + 1))))) z c s) : ip sc call 139 MC MS Q 170 [some (.ref r_0), some (.int x_1), some (.int x_2), some (.int x_3), some (.int x_4), some (.int x_5), some (.int x_6), some (.int x_7), some (.int x_8), some (.int x_9), some (.int x_10)] [] h z c s := by
  refine jp_load (pc2 := 171) (n := 0) rfl rfl rfl rfl ?_
  refine jp_getf (pc2 := 174) rfl rfl e2 e3 ?_
  refine jp_load (pc2 := 176) (n := 10) rfl rfl rfl rfl ?_
  refine jp_load (pc2 := 177) (n := 0) rfl rfl rfl rfl ?_
  refine jp_getf (pc2 := 180) rfl rfl e2 e4 ?_
  refine jp_load (pc2 := 181) (n := 2) rfl rfl rfl rfl ?_
  refine jp_con (pc2 := 182) (v := .int 0) rfl rfl rfl ?_
  refine jp_bin (pc2 := 183) (v := x_2 + 0) rfl rfl rfl ?_
  refine jp_iald (pc2 := 184) rfl rfl e7 b8 ?_
  refine jp_iast (pc2 := 185) rfl rfl e11 b12 ?_
  refine jp_load (pc2 := 186) (n := 0) rfl rfl rfl rfl ?_
  refine jp_getf (pc2 := 189) rfl rfl (hup_ne n13 e2) e4 ?_
  refine jp_load (pc2 := 190) (n := 2) rfl rfl rfl rfl ?_
  refine jp_con (pc2 := 191) (v := .int 4) rfl rfl rfl ?_
  refine jp_bin (pc2 := 192) (v := x_2 + 4) rfl rfl rfl ?_
  refine jp_load (pc2 := 193) (n := 0) rfl rfl rfl rfl ?_
  refine jp_getf (pc2 := 196) rfl rfl (hup_ne n13 e2) e3 ?_
  refine jp_load (pc2 := 198) (n := 10) rfl rfl rfl rfl ?_
  refine jp_iald (pc2 := 199) rfl rfl hup_eq b12 ?_
  refine jp_bin (pc2 := 200) (v := (x_2 + 4) + (((upd f10 x_10.toNatClampNeg (f6 (x_2 + 0).toNatClampNeg))) x_10.toNatClampNeg)) rfl rfl rfl ?_
  refine jp_load (pc2 := 201) (n := 0) rfl rfl rfl rfl ?_
  refine jp_getf (pc2 := 204) rfl rfl (hup_ne n13 e2) e4 ?_
  refine jp_load (pc2 := 205) (n := 1) rfl rfl rfl rfl ?_
  refine jp_con (pc2 := 206) (v := .int 4) rfl rfl rfl ?_
  refine jp_bin (pc2 := 207) (v := x_1 + 4) rfl rfl rfl ?_
  refine jp_load (pc2 := 209) (n := 10) rfl rfl rfl rfl ?_
  refine jp_bin (pc2 := 210) (v := (x_1 + 4) + x_10) rfl rfl rfl ?_
  refine jp_iald (pc2 := 211) rfl rfl (hup_ne n14 e7) b15 ?_
  refine jp_iast (pc2 := 212) rfl rfl (hup_ne n14 e7) b16 ?_
  refine jp_load (pc2 := 213) (n := 0) rfl rfl rfl rfl ?_
  refine jp_getf (pc2 := 216) rfl rfl (hup_ne n17 (hup_ne n13 e2)) e4 ?_
  refine jp_load (pc2 := 217) (n := 2) rfl rfl rfl rfl ?_
  refine jp_con (pc2 := 218) (v := .int 0) rfl rfl rfl ?_
  refine jp_bin (pc2 := 219) (v := x_2 + 0) rfl rfl rfl ?_
  refine jp_dup2 (pc2 := 220) rfl rfl rfl rfl ?_
  refine jp_iald (pc2 := 221) rfl rfl hup_eq b8 ?_
  refine jp_con (pc2 := 222) (v := .int 1) rfl rfl rfl ?_
  refine jp_bin (pc2 := 223) (v := (((upd f6 ((x_2 + 4) + (((upd f10 x_10.toNatClampNeg (f6 (x_2 + 0).toNatClampNeg))) x_10.toNatClampNeg)).toNatClampNeg (f6 ((x_1 + 4) + x_10).toNatClampNeg))) (x_2 + 0).toNatClampNeg) + 1) rfl rfl rfl ?_
  refine jp_iast (pc2 := 224) rfl rfl hup_eq b8 ?_
  exact K
set_option maxRecDepth 100000 in
theorem b139_224 {r_0 : Nat} {x_1 : Int32} {x_2 : Int32} {x_3 : Int32} {x_4 : Int32} {x_5 : Int32} {x_6 : Int32} {x_7 : Int32} {x_8 : Int32} {x_9 : Int32} {x_10 : Int32} {fs1 : List Value} {q_fs1_12 : Nat} {n4 : Nat} {f5 : Nat → Int32} {P : ipQ} (e2 : h r_0 = some (.inr (9, fs1))) (e3 : fs1[12]? = some (.ref q_fs1_12)) (e6 : h q_fs1_12 = some (.inl (0, n4, .inl f5))) (b7 : vp_in x_10 n4) (m8 : c ≤ MC) (m9 : s ≤ MS) (hc : call 101 [(.ref r_0), (.int x_2), (.int (f5 x_10.toNatClampNeg))] h z 0 0 P) (K : ∀ (o : Option Value) (h2 : HP) (z2 : Nat), P o h2 z2 → ip sc call 139 MC MS Q 236 [some (.ref r_0), some (.int x_1), some (.int x_2), some (.int x_3), some (.int x_4), some (.int x_5), some (.int x_6), some (.int x_7), some (.int x_8), some (.int x_9), some (.int x_10)] (o.toList ++ []) h2 z2 c s) : ip sc call 139 MC MS Q 224 [some (.ref r_0), some (.int x_1), some (.int x_2), some (.int x_3), some (.int x_4), some (.int x_5), some (.int x_6), some (.int x_7), some (.int x_8), some (.int x_9), some (.int x_10)] [] h z c s := by
  refine jp_load (pc2 := 225) (n := 0) rfl rfl rfl rfl ?_
  refine jp_load (pc2 := 226) (n := 2) rfl rfl rfl rfl ?_
  refine jp_load (pc2 := 227) (n := 0) rfl rfl rfl rfl ?_
  refine jp_getf (pc2 := 230) rfl rfl e2 e3 ?_
  refine jp_load (pc2 := 232) (n := 10) rfl rfl rfl rfl ?_
  refine jp_iald (pc2 := 233) rfl rfl e6 b7 ?_
  exact jp_virt0 (pc2 := 236) (As := [(.int x_2), (.int (f5 x_10.toNatClampNeg))]) (rest := []) rfl rfl rfl (Nat.le_of_ble_eq_true rfl) e2 m8 m9 hc rfl K
set_option maxRecDepth 100000 in
theorem b139_236 {r_0 : Nat} {x_1 : Int32} {x_2 : Int32} {x_3 : Int32} {x_4 : Int32} {x_5 : Int32} {x_6 : Int32} {x_7 : Int32} {x_8 : Int32} {x_9 : Int32} {o_10 : Option Value}  (K : ip sc call 139 MC MS Q 130 [some (.ref r_0), some (.int x_1), some (.int x_2), some (.int x_3), some (.int x_4), some (.int x_5), some (.int x_6), some (.int x_7), some (.int x_8), some (.int (x_9 + 1)), o_10] [] h z c s) : ip sc call 139 MC MS Q 236 [some (.ref r_0), some (.int x_1), some (.int x_2), some (.int x_3), some (.int x_4), some (.int x_5), some (.int x_6), some (.int x_7), some (.int x_8), some (.int x_9), o_10] [] h z c s := by
  refine jp_iinc (pc2 := 239) (n := 9) (v := x_9 + 1) rfl rfl rfl rfl rfl ?_
  refine ip_goto rfl ?_
  exact K
set_option maxRecDepth 100000 in
theorem b139_242 {r_0 : Nat} {x_1 : Int32} {x_2 : Int32} {x_3 : Int32} {x_4 : Int32} {x_5 : Int32} {x_6 : Int32} {x_7 : Int32} {x_8 : Int32} {o_9 : Option Value} {o_10 : Option Value}  (K : ip sc call 139 MC MS Q 80 [some (.ref r_0), some (.int x_1), some (.int x_2), some (.int x_3), some (.int (x_4 + 1)), some (.int (x_5 + x_8)), some (.int x_6), some (.int (x_7 + 1)), some (.int x_8), o_9, o_10] [] h z c s) : ip sc call 139 MC MS Q 242 [some (.ref r_0), some (.int x_1), some (.int x_2), some (.int x_3), some (.int x_4), some (.int x_5), some (.int x_6), some (.int x_7), some (.int x_8), o_9, o_10] [] h z c s := by
  refine jp_load (pc2 := 244) (n := 5) rfl rfl rfl rfl ?_
  refine jp_load (pc2 := 246) (n := 8) rfl rfl rfl rfl ?_
  refine jp_bin (pc2 := 247) (v := x_5 + x_8) rfl rfl rfl ?_
  refine jp_store (pc2 := 249) (n := 5) rfl rfl ⟨rfl, rfl⟩ rfl (Nat.le_of_ble_eq_true rfl) ?_
  refine jp_iinc (pc2 := 252) (n := 4) (v := x_4 + 1) rfl rfl rfl rfl rfl ?_
  refine jp_iinc (pc2 := 255) (n := 7) (v := x_7 + 1) rfl rfl rfl rfl rfl ?_
  refine ip_goto rfl ?_
  exact K
set_option maxRecDepth 100000 in
theorem b139_258 {r_0 : Nat} {x_1 : Int32} {x_2 : Int32} {x_3 : Int32} {x_4 : Int32} {x_5 : Int32} {x_6 : Int32} {o_7 : Option Value} {o_8 : Option Value} {o_9 : Option Value} {o_10 : Option Value}  (K : ip sc call 139 MC MS Q 48 [some (.ref r_0), some (.int x_1), some (.int x_2), some (.int x_3), some (.int x_4), some (.int x_5), some (.int (x_6 + 1)), o_7, o_8, o_9, o_10] [] h z c s) : ip sc call 139 MC MS Q 258 [some (.ref r_0), some (.int x_1), some (.int x_2), some (.int x_3), some (.int x_4), some (.int x_5), some (.int x_6), o_7, o_8, o_9, o_10] [] h z c s := by
  refine jp_iinc (pc2 := 261) (n := 6) (v := x_6 + 1) rfl rfl rfl rfl rfl ?_
  refine ip_goto rfl ?_
  exact K
set_option maxRecDepth 100000 in
theorem b139_264 {o_0 : Option Value} {o_1 : Option Value} {o_2 : Option Value} {o_3 : Option Value} {o_4 : Option Value} {o_5 : Option Value} {o_6 : Option Value} {o_7 : Option Value} {o_8 : Option Value} {o_9 : Option Value} {o_10 : Option Value} (q1 : Q none h z)  : ip sc call 139 MC MS Q 264 [o_0, o_1, o_2, o_3, o_4, o_5, o_6, o_7, o_8, o_9, o_10] [] h z c s := by
  exact ip_vret (st := []) rfl rfl q1
theorem b140_0 {r_0 : Nat} {x_1 : Int32} {o_2 : Option Value} {o_3 : Option Value} {o_4 : Option Value} {o_5 : Option Value} {o_6 : Option Value} {fs1 : List Value} (e2 : h r_0 = some (.inr (9, fs1))) (l3 : fs1.length = 16) (K : ip sc call 140 MC MS Q 16 [some (.ref r_0), some (.int x_1), some (.int 0), some (.int (x_1 + 132)), some (.int 0), o_5, o_6] [] (hup h r_0 (.inr (9, (fs1.set 15 (.int 0))))) z c s) : ip sc call 140 MC MS Q 0 [some (.ref r_0), some (.int x_1), o_2, o_3, o_4, o_5, o_6] [] h z c s := by
  refine jp_load (pc2 := 1) (n := 0) rfl rfl rfl rfl ?_
  refine jp_con (pc2 := 2) (v := .int 0) rfl rfl rfl ?_
  refine jp_putf (pc2 := 5) rfl rfl e2 (ln_lt l3 (by decide)) ⟨rfl, rfl⟩ ?_
  refine jp_con (pc2 := 6) (v := .int 0) rfl rfl rfl ?_
  refine jp_store (pc2 := 7) (n := 2) rfl rfl ⟨rfl, rfl⟩ rfl (Nat.le_of_ble_eq_true rfl) ?_
  refine jp_load (pc2 := 8) (n := 1) rfl rfl rfl rfl ?_
  refine jp_con (pc2 := 11) (v := .int 132) rfl rfl rfl ?_
  refine jp_bin (pc2 := 12) (v := x_1 + 132) rfl rfl rfl ?_
  refine jp_store (pc2 := 13) (n := 3) rfl rfl ⟨rfl, rfl⟩ rfl (Nat.le_of_ble_eq_true rfl) ?_
  refine jp_con (pc2 := 14) (v := .int 0) rfl rfl rfl ?_
  refine jp_store (pc2 := 16) (n := 4) rfl rfl ⟨rfl, rfl⟩ rfl (Nat.le_of_ble_eq_true rfl) ?_
  exact K
theorem b140_16 {r_0 : Nat} {x_1 : Int32} {x_2 : Int32} {x_3 : Int32} {x_4 : Int32} {o_5 : Option Value} {o_6 : Option Value} {fs1 : List Value} {q_fs1_0 : Nat} {n4 : Nat} {f5 : Nat → Int32} (e2 : h r_0 = some (.inr (9, fs1))) (e3 : fs1[0]? = some (.ref q_fs1_0)) (e6 : h q_fs1_0 = some (.inl (0, n4, .inl f5))) (b7 : vp_in (x_1 + 1) n4) (K1 : (f5 (x_1 + 1).toNatClampNeg) ≤ x_4 → ip sc call 140 MC MS Q 151 [some (.ref r_0), some (.int x_1), some (.int x_2), some (.int x_3), some (.int x_4), o_5, o_6] [] h z c s) (K2 : ¬ ((f5 (x_1 + 1).toNatClampNeg) ≤ x_4) → ip sc call 140 MC MS Q 29 [some (.ref r_0), some (.int x_1), some (.int x_2), some (.int x_3), some (.int x_4), o_5, o_6] [] h z c s) : ip sc call 140 MC MS Q 16 [some (.ref r_0), some (.int x_1), some (.int x_2), some (.int x_3), some (.int x_4), o_5, o_6] [] h z c s := by
  refine jp_load (pc2 := 18) (n := 4) rfl rfl rfl rfl ?_
  refine jp_load (pc2 := 19) (n := 0) rfl rfl rfl rfl ?_
  refine jp_getf (pc2 := 22) rfl rfl e2 e3 ?_
  refine jp_load (pc2 := 23) (n := 1) rfl rfl rfl rfl ?_
  refine jp_con (pc2 := 24) (v := .int 1) rfl rfl rfl ?_
  refine jp_bin (pc2 := 25) (v := x_1 + 1) rfl rfl rfl ?_
  refine jp_iald (pc2 := 26) rfl rfl e6 b7 ?_
  exact jp_icmp (pc2 := 29) rfl rfl K1 K2
theorem b140_29 {r_0 : Nat} {x_1 : Int32} {x_2 : Int32} {x_3 : Int32} {x_4 : Int32} {o_5 : Option Value} {o_6 : Option Value} {fs1 : List Value} {P : ipQ} (e2 : h r_0 = some (.inr (9, fs1))) (m3 : c ≤ MC) (m4 : s ≤ MS) (hc : call 141 [(.ref r_0), (.int 255)] h z 0 0 P) (K : ∀ (o : Option Value) (h2 : HP) (z2 : Nat), P o h2 z2 → ip sc call 140 MC MS Q 36 [some (.ref r_0), some (.int x_1), some (.int x_2), some (.int x_3), some (.int x_4), o_5, o_6] (o.toList ++ []) h2 z2 c s) : ip sc call 140 MC MS Q 29 [some (.ref r_0), some (.int x_1), some (.int x_2), some (.int x_3), some (.int x_4), o_5, o_6] [] h z c s := by
  refine jp_load (pc2 := 30) (n := 0) rfl rfl rfl rfl ?_
  refine jp_con (pc2 := 33) (v := .int 255) rfl rfl rfl ?_
  exact jp_virt0 (pc2 := 36) (As := [(.int 255)]) (rest := []) rfl rfl rfl (Nat.le_of_ble_eq_true rfl) e2 m3 m4 hc rfl K
theorem b140_36 {r_0 : Nat} {x_1 : Int32} {x_2 : Int32} {x_3 : Int32} {x_4 : Int32} {o_5 : Option Value} {o_6 : Option Value}  (K : ip sc call 140 MC MS Q 39 [some (.ref r_0), some (.int x_1), some (.int x_2), some (.int x_3), some (.int x_4), some (.int 0), o_6] [] h z c s) : ip sc call 140 MC MS Q 36 [some (.ref r_0), some (.int x_1), some (.int x_2), some (.int x_3), some (.int x_4), o_5, o_6] [] h z c s := by
  refine jp_con (pc2 := 37) (v := .int 0) rfl rfl rfl ?_
  refine jp_store (pc2 := 39) (n := 5) rfl rfl ⟨rfl, rfl⟩ rfl (Nat.le_of_ble_eq_true rfl) ?_
  exact K
theorem b140_39 {r_0 : Nat} {x_1 : Int32} {x_2 : Int32} {x_3 : Int32} {x_4 : Int32} {x_5 : Int32} {o_6 : Option Value} {fs1 : List Value} {q_fs1_0 : Nat} {n4 : Nat} {f5 : Nat → Int32} (e2 : h r_0 = some (.inr (9, fs1))) (e3 : fs1[0]? = some (.ref q_fs1_0)) (e6 : h q_fs1_0 = some (.inl (0, n4, .inl f5))) (b7 : vp_in ((x_1 + 36) + x_4) n4) (K1 : (f5 ((x_1 + 36) + x_4).toNatClampNeg) ≤ x_5 → ip sc call 140 MC MS Q 145 [some (.ref r_0), some (.int x_1), some (.int x_2), some (.int x_3), some (.int x_4), some (.int x_5), o_6] [] h z c s) (K2 : ¬ ((f5 ((x_1 + 36) + x_4).toNatClampNeg) ≤ x_5) → ip sc call 140 MC MS Q 56 [some (.ref r_0), some (.int x_1), some (.int x_2), some (.int x_3), some (.int x_4), some (.int x_5), o_6] [] h z c s) : ip sc call 140 MC MS Q 39 [some (.ref r_0), some (.int x_1), some (.int x_2), some (.int x_3), some (.int x_4), some (.int x_5), o_6] [] h z c s := by
  refine jp_load (pc2 := 41) (n := 5) rfl rfl rfl rfl ?_
  refine jp_load (pc2 := 42) (n := 0) rfl rfl rfl rfl ?_
  refine jp_getf (pc2 := 45) rfl rfl e2 e3 ?_
  refine jp_load (pc2 := 46) (n := 1) rfl rfl rfl rfl ?_
  refine jp_con (pc2 := 48) (v := .int 36) rfl rfl rfl ?_
  refine jp_bin (pc2 := 49) (v := x_1 + 36) rfl rfl rfl ?_
  refine jp_load (pc2 := 51) (n := 4) rfl rfl rfl rfl ?_
  refine jp_bin (pc2 := 52) (v := (x_1 + 36) + x_4) rfl rfl rfl ?_
  refine jp_iald (pc2 := 53) rfl rfl e6 b7 ?_
  exact jp_icmp (pc2 := 56) rfl rfl K1 K2
theorem b140_56 {r_0 : Nat} {x_1 : Int32} {x_2 : Int32} {x_3 : Int32} {x_4 : Int32} {x_5 : Int32} {o_6 : Option Value} {fs1 : List Value} {P : ipQ} (e2 : h r_0 = some (.inr (9, fs1))) (m3 : c ≤ MC) (m4 : s ≤ MS) (hc : call 141 [(.ref r_0), (.int 254)] h z 0 0 P) (K : ∀ (o : Option Value) (h2 : HP) (z2 : Nat), P o h2 z2 → ip sc call 140 MC MS Q 63 [some (.ref r_0), some (.int x_1), some (.int x_2), some (.int x_3), some (.int x_4), some (.int x_5), o_6] (o.toList ++ []) h2 z2 c s) : ip sc call 140 MC MS Q 56 [some (.ref r_0), some (.int x_1), some (.int x_2), some (.int x_3), some (.int x_4), some (.int x_5), o_6] [] h z c s := by
  refine jp_load (pc2 := 57) (n := 0) rfl rfl rfl rfl ?_
  refine jp_con (pc2 := 60) (v := .int 254) rfl rfl rfl ?_
  exact jp_virt0 (pc2 := 63) (As := [(.int 254)]) (rest := []) rfl rfl rfl (Nat.le_of_ble_eq_true rfl) e2 m3 m4 hc rfl K
theorem b140_63 {r_0 : Nat} {x_1 : Int32} {x_2 : Int32} {x_3 : Int32} {x_4 : Int32} {x_5 : Int32} {o_6 : Option Value}  (K : ip sc call 140 MC MS Q 66 [some (.ref r_0), some (.int x_1), some (.int x_2), some (.int x_3), some (.int x_4), some (.int x_5), some (.int 0)] [] h z c s) : ip sc call 140 MC MS Q 63 [some (.ref r_0), some (.int x_1), some (.int x_2), some (.int x_3), some (.int x_4), some (.int x_5), o_6] [] h z c s := by
  refine jp_con (pc2 := 64) (v := .int 0) rfl rfl rfl ?_
  refine jp_store (pc2 := 66) (n := 6) rfl rfl ⟨rfl, rfl⟩ rfl (Nat.le_of_ble_eq_true rfl) ?_
  exact K
theorem b140_66 {r_0 : Nat} {x_1 : Int32} {x_2 : Int32} {x_3 : Int32} {x_4 : Int32} {x_5 : Int32} {x_6 : Int32} {fs1 : List Value} {q_fs1_0 : Nat} {n4 : Nat} {f5 : Nat → Int32} (e2 : h r_0 = some (.inr (9, fs1))) (e3 : fs1[0]? = some (.ref q_fs1_0)) (e6 : h q_fs1_0 = some (.inl (0, n4, .inl f5))) (b7 : vp_in ((x_1 + 68) + x_2) n4) (K1 : (f5 ((x_1 + 68) + x_2).toNatClampNeg) ≤ x_6 → ip sc call 140 MC MS Q 122 [some (.ref r_0), some (.int x_1), some (.int x_2), some (.int x_3), some (.int x_4), some (.int x_5), some (.int x_6)] [] h z c s) (K2 : ¬ ((f5 ((x_1 + 68) + x_2).toNatClampNeg) ≤ x_6) → ip sc call 140 MC MS Q 82 [some (.ref r_0), some (.int x_1), some (.int x_2), some (.int x_3), some (.int x_4), some (.int x_5), some (.int x_6)] [] h z c s) : ip sc call 140 MC MS Q 66 [some (.ref r_0), some (.int x_1), some (.int x_2), some (.int x_3), some (.int x_4), some (.int x_5), some (.int x_6)] [] h z c s := by
  refine jp_load (pc2 := 68) (n := 6) rfl rfl rfl rfl ?_
  refine jp_load (pc2 := 69) (n := 0) rfl rfl rfl rfl ?_
  refine jp_getf (pc2 := 72) rfl rfl e2 e3 ?_
  refine jp_load (pc2 := 73) (n := 1) rfl rfl rfl rfl ?_
  refine jp_con (pc2 := 75) (v := .int 68) rfl rfl rfl ?_
  refine jp_bin (pc2 := 76) (v := x_1 + 68) rfl rfl rfl ?_
  refine jp_load (pc2 := 77) (n := 2) rfl rfl rfl rfl ?_
  refine jp_bin (pc2 := 78) (v := (x_1 + 68) + x_2) rfl rfl rfl ?_
  refine jp_iald (pc2 := 79) rfl rfl e6 b7 ?_
  exact jp_icmp (pc2 := 82) rfl rfl K1 K2
theorem b140_82 {r_0 : Nat} {x_1 : Int32} {x_2 : Int32} {x_3 : Int32} {x_4 : Int32} {x_5 : Int32} {x_6 : Int32} {fs1 : List Value} {q_fs1_0 : Nat} {n4 : Nat} {f5 : Nat → Int32} {P : ipQ} (e2 : h r_0 = some (.inr (9, fs1))) (e3 : fs1[0]? = some (.ref q_fs1_0)) (e6 : h q_fs1_0 = some (.inl (0, n4, .inl f5))) (b7 : vp_in (x_3 + x_6) n4) (b8 : vp_in ((x_1 + 4) + (f5 (x_3 + x_6).toNatClampNeg)) n4) (m9 : c ≤ MC) (m10 : s ≤ MS) (hc : call 141 [(.ref r_0), (.int ((4 * (f5 (x_3 + x_6).toNatClampNeg)) + (f5 ((x_1 + 4) + (f5 (x_3 + x_6).toNatClampNeg)).toNatClampNeg)))] h z 0 0 P) (K : ∀ (o : Option Value) (h2 : HP) (z2 : Nat), P o h2 z2 → ip sc call 140 MC MS Q 116 [some (.ref r_0), some (.int x_1), some (.int x_2), some (.int x_3), some (.int x_4), some (.int x_5), some (.int x_6)] (o.toList ++ []) h2 z2 c s) : ip sc call 140 MC MS Q 82 [some (.ref r_0), some (.int x_1), some (.int x_2), some (.int x_3), some (.int x_4), some (.int x_5), some (.int x_6)] [] h z c s := by
  refine jp_load (pc2 := 83) (n := 0) rfl rfl rfl rfl ?_
  refine jp_con (pc2 := 84) (v := .int 4) rfl rfl rfl ?_
  refine jp_load (pc2 := 85) (n := 0) rfl rfl rfl rfl ?_
  refine jp_getf (pc2 := 88) rfl rfl e2 e3 ?_
  refine jp_load (pc2 := 89) (n := 3) rfl rfl rfl rfl ?_
  refine jp_load (pc2 := 91) (n := 6) rfl rfl rfl rfl ?_
  refine jp_bin (pc2 := 92) (v := x_3 + x_6) rfl rfl rfl ?_
  refine jp_iald (pc2 := 93) rfl rfl e6 b7 ?_
  refine jp_bin (pc2 := 94) (v := 4 * (f5 (x_3 + x_6).toNatClampNeg)) rfl rfl rfl ?_
  refine jp_load (pc2 := 95) (n := 0) rfl rfl rfl rfl ?_
  refine jp_getf (pc2 := 98) rfl rfl e2 e3 ?_
  refine jp_load (pc2 := 99) (n := 1) rfl rfl rfl rfl ?_
  refine jp_con (pc2 := 100) (v := .int 4) rfl rfl rfl ?_
  refine jp_bin (pc2 := 101) (v := x_1 + 4) rfl rfl rfl ?_
  refine jp_load (pc2 := 102) (n := 0) rfl rfl rfl rfl ?_
  refine jp_getf (pc2 := 105) rfl rfl e2 e3 ?_
  refine jp_load (pc2 := 106) (n := 3) rfl rfl rfl rfl ?_
  refine jp_load (pc2 := 108) (n := 6) rfl rfl rfl rfl ?_
  refine jp_bin (pc2 := 109) (v := x_3 + x_6) rfl rfl rfl ?_
  refine jp_iald (pc2 := 110) rfl rfl e6 b7 ?_
  refine jp_bin (pc2 := 111) (v := (x_1 + 4) + (f5 (x_3 + x_6).toNatClampNeg)) rfl rfl rfl ?_
  refine jp_iald (pc2 := 112) rfl rfl e6 b8 ?_
  refine jp_bin (pc2 := 113) (v := (4 * (f5 (x_3 + x_6).toNatClampNeg)) + (f5 ((x_1 + 4) + (f5 (x_3 + x_6).toNatClampNeg)).toNatClampNeg)) rfl rfl rfl ?_
  exact jp_virt0 (pc2 := 116) (As := [(.int ((4 * (f5 (x_3 + x_6).toNatClampNeg)) + (f5 ((x_1 + 4) + (f5 (x_3 + x_6).toNatClampNeg)).toNatClampNeg)))]) (rest := []) rfl rfl rfl (Nat.le_of_ble_eq_true rfl) e2 m9 m10 hc rfl K
theorem b140_116 {r_0 : Nat} {x_1 : Int32} {x_2 : Int32} {x_3 : Int32} {x_4 : Int32} {x_5 : Int32} {x_6 : Int32}  (K : ip sc call 140 MC MS Q 66 [some (.ref r_0), some (.int x_1), some (.int x_2), some (.int x_3), some (.int x_4), some (.int x_5), some (.int (x_6 + 1))] [] h z c s) : ip sc call 140 MC MS Q 116 [some (.ref r_0), some (.int x_1), some (.int x_2), some (.int x_3), some (.int x_4), some (.int x_5), some (.int x_6)] [] h z c s := by
  refine jp_iinc (pc2 := 119) (n := 6) (v := x_6 + 1) rfl rfl rfl rfl rfl ?_
  refine ip_goto rfl ?_
  exact K
theorem b140_122 {r_0 : Nat} {x_1 : Int32} {x_2 : Int32} {x_3 : Int32} {x_4 : Int32} {x_5 : Int32} {o_6 : Option Value} {fs1 : List Value} {q_fs1_0 : Nat} {n4 : Nat} {f5 : Nat → Int32} (e2 : h r_0 = some (.inr (9, fs1))) (e3 : fs1[0]? = some (.ref q_fs1_0)) (e6 : h q_fs1_0 = some (.inl (0, n4, .inl f5))) (b7 : vp_in ((x_1 + 68) + x_2) n4) (K : ip sc call 140 MC MS Q 39 [some (.ref r_0), some (.int x_1), some (.int (x_2 + 1)), some (.int (x_3 + (f5 ((x_1 + 68) + x_2).toNatClampNeg))), some (.int x_4), some (.int (x_5 + 1)), o_6] [] h z c s) : ip sc call 140 MC MS Q 122 [some (.ref r_0), some (.int x_1), some (.int x_2), some (.int x_3), some (.int x_4), some (.int x_5), o_6] [] h z c s := by
  refine jp_load (pc2 := 123) (n := 3) rfl rfl rfl rfl ?_
  refine jp_load (pc2 := 124) (n := 0) rfl rfl rfl rfl ?_
  refine jp_getf (pc2 := 127) rfl rfl e2 e3 ?_
  refine jp_load (pc2 := 128) (n := 1) rfl rfl rfl rfl ?_
  refine jp_con (pc2 := 130) (v := .int 68) rfl rfl rfl ?_
  refine jp_bin (pc2 := 131) (v := x_1 + 68) rfl rfl rfl ?_
  refine jp_load (pc2 := 132) (n := 2) rfl rfl rfl rfl ?_
  refine jp_bin (pc2 := 133) (v := (x_1 + 68) + x_2) rfl rfl rfl ?_
  refine jp_iald (pc2 := 134) rfl rfl e6 b7 ?_
  refine jp_bin (pc2 := 135) (v := x_3 + (f5 ((x_1 + 68) + x_2).toNatClampNeg)) rfl rfl rfl ?_
  refine jp_store (pc2 := 136) (n := 3) rfl rfl ⟨rfl, rfl⟩ rfl (Nat.le_of_ble_eq_true rfl) ?_
  refine jp_iinc (pc2 := 139) (n := 2) (v := x_2 + 1) rfl rfl rfl rfl rfl ?_
  refine jp_iinc (pc2 := 142) (n := 5) (v := x_5 + 1) rfl rfl rfl rfl rfl ?_
  refine ip_goto rfl ?_
  exact K
theorem b140_145 {r_0 : Nat} {x_1 : Int32} {x_2 : Int32} {x_3 : Int32} {x_4 : Int32} {o_5 : Option Value} {o_6 : Option Value}  (K : ip sc call 140 MC MS Q 16 [some (.ref r_0), some (.int x_1), some (.int x_2), some (.int x_3), some (.int (x_4 + 1)), o_5, o_6] [] h z c s) : ip sc call 140 MC MS Q 145 [some (.ref r_0), some (.int x_1), some (.int x_2), some (.int x_3), some (.int x_4), o_5, o_6] [] h z c s := by
  refine jp_iinc (pc2 := 148) (n := 4) (v := x_4 + 1) rfl rfl rfl rfl rfl ?_
  refine ip_goto rfl ?_
  exact K
theorem b140_151 {o_0 : Option Value} {o_1 : Option Value} {o_2 : Option Value} {o_3 : Option Value} {o_4 : Option Value} {o_5 : Option Value} {o_6 : Option Value} (q1 : Q none h z)  : ip sc call 140 MC MS Q 151 [o_0, o_1, o_2, o_3, o_4, o_5, o_6] [] h z c s := by
  exact ip_vret (st := []) rfl rfl q1
theorem b141_0 {r_0 : Nat} {x_1 : Int32} {fs1 : List Value} {v_fs1_15 : Int32} (e2 : h r_0 = some (.inr (9, fs1))) (e3 : fs1[15]? = some (.int v_fs1_15)) (K1 : (72 : Int32) ≤ v_fs1_15 → ip sc call 141 MC MS Q 20 [some (.ref r_0), some (.int x_1)] [] h z c s) (K2 : ¬ ((72 : Int32) ≤ v_fs1_15) → ip sc call 141 MC MS Q 9 [some (.ref r_0), some (.int x_1)] [] h z c s) : ip sc call 141 MC MS Q 0 [some (.ref r_0), some (.int x_1)] [] h z c s := by
  refine jp_load (pc2 := 1) (n := 0) rfl rfl rfl rfl ?_
  refine jp_getf (pc2 := 4) rfl rfl e2 e3 ?_
  refine jp_con (pc2 := 6) (v := .int 72) rfl rfl rfl ?_
  exact jp_icmp (pc2 := 9) rfl rfl K1 K2
theorem b141_9 {r_0 : Nat} {x_1 : Int32} {fs1 : List Value} {q_fs1_14 : Nat} {v_fs1_15 : Int32} {n5 : Nat} {f6 : Nat → Int32} (e2 : h r_0 = some (.inr (9, fs1))) (e3 : fs1[14]? = some (.ref q_fs1_14)) (e4 : fs1[15]? = some (.int v_fs1_15)) (e7 : h q_fs1_14 = some (.inl (2, n5, .inl f6))) (b8 : vp_in v_fs1_15 n5) (K : ip sc call 141 MC MS Q 20 [some (.ref r_0), some (.int x_1)] [] (hup h q_fs1_14 (.inl (2, n5, .inl (upd f6 v_fs1_15.toNatClampNeg (vp_nar .byte x_1.toInt8.toInt32))))) z c s) : ip sc call 141 MC MS Q 9 [some (.ref r_0), some (.int x_1)] [] h z c s := by
  refine jp_load (pc2 := 10) (n := 0) rfl rfl rfl rfl ?_
  refine jp_getf (pc2 := 13) rfl rfl e2 e3 ?_
  refine jp_load (pc2 := 14) (n := 0) rfl rfl rfl rfl ?_
  refine jp_getf (pc2 := 17) rfl rfl e2 e4 ?_
  refine jp_load (pc2 := 18) (n := 1) rfl rfl rfl rfl ?_
  refine jp_cv (pc2 := 19) (v := (.int x_1.toInt8.toInt32)) rfl rfl rfl ?_
  refine jp_bast (pc2 := 20) rfl rfl e7 b8 ?_
  exact K
theorem b141_20 {r_0 : Nat} {o_1 : Option Value} {fs1 : List Value} {v_fs1_15 : Int32} (e2 : h r_0 = some (.inr (9, fs1))) (e3 : fs1[15]? = some (.int v_fs1_15)) (l4 : fs1.length = 16) (q5 : Q none (hup h r_0 (.inr (9, (fs1.set 15 (.int (v_fs1_15 + 1)))))) z)  : ip sc call 141 MC MS Q 20 [some (.ref r_0), o_1] [] h z c s := by
  refine jp_load (pc2 := 21) (n := 0) rfl rfl rfl rfl ?_
  refine jp_dup (pc2 := 22) rfl rfl rfl ?_
  refine jp_getf (pc2 := 25) rfl rfl e2 e3 ?_
  refine jp_con (pc2 := 26) (v := .int 1) rfl rfl rfl ?_
  refine jp_bin (pc2 := 27) (v := v_fs1_15 + 1) rfl rfl rfl ?_
  refine jp_putf (pc2 := 30) rfl rfl e2 (ln_lt l4 (by decide)) ⟨rfl, rfl⟩ ?_
  exact ip_vret (st := []) rfl rfl q5
theorem b142_0 {r_0 : Nat} {o_1 : Option Value} {o_2 : Option Value} {o_3 : Option Value} {o_4 : Option Value} {o_5 : Option Value} {fs1 : List Value} {v_fs1_15 : Int32} (e2 : h r_0 = some (.inr (9, fs1))) (e3 : fs1[15]? = some (.int v_fs1_15)) (K1 : v_fs1_15 ≤ 72 → ip sc call 142 MC MS Q 11 [some (.ref r_0), o_1, o_2, o_3, o_4, o_5] [] h z c s) (K2 : ¬ (v_fs1_15 ≤ 72) → ip sc call 142 MC MS Q 9 [some (.ref r_0), o_1, o_2, o_3, o_4, o_5] [] h z c s) : ip sc call 142 MC MS Q 0 [some (.ref r_0), o_1, o_2, o_3, o_4, o_5] [] h z c s := by
  refine jp_load (pc2 := 1) (n := 0) rfl rfl rfl rfl ?_
  refine jp_getf (pc2 := 4) rfl rfl e2 e3 ?_
  refine jp_con (pc2 := 6) (v := .int 72) rfl rfl rfl ?_
  exact jp_icmp (pc2 := 9) rfl rfl K1 K2
theorem b142_9 {o_0 : Option Value} {o_1 : Option Value} {o_2 : Option Value} {o_3 : Option Value} {o_4 : Option Value} {o_5 : Option Value} (q1 : Q (some (.int ((-1)))) h z)  : ip sc call 142 MC MS Q 9 [o_0, o_1, o_2, o_3, o_4, o_5] [] h z c s := by
  refine jp_con (pc2 := 10) (v := .int (-1)) rfl rfl rfl ?_
  exact ip_iret (st := []) rfl rfl rfl q1
theorem b142_11 {r_0 : Nat} {o_1 : Option Value} {o_2 : Option Value} {o_3 : Option Value} {o_4 : Option Value} {o_5 : Option Value}  (K : ip sc call 142 MC MS Q 16 [some (.ref r_0), some (.int 7), some (.int 0), o_3, o_4, o_5] [] h z c s) : ip sc call 142 MC MS Q 11 [some (.ref r_0), o_1, o_2, o_3, o_4, o_5] [] h z c s := by
  refine jp_con (pc2 := 13) (v := .int 7) rfl rfl rfl ?_
  refine jp_store (pc2 := 14) (n := 1) rfl rfl ⟨rfl, rfl⟩ rfl (Nat.le_of_ble_eq_true rfl) ?_
  refine jp_con (pc2 := 15) (v := .int 0) rfl rfl rfl ?_
  refine jp_store (pc2 := 16) (n := 2) rfl rfl ⟨rfl, rfl⟩ rfl (Nat.le_of_ble_eq_true rfl) ?_
  exact K
theorem b142_16 {r_0 : Nat} {x_1 : Int32} {x_2 : Int32} {o_3 : Option Value} {o_4 : Option Value} {o_5 : Option Value} {fs1 : List Value} {v_fs1_15 : Int32} (e2 : h r_0 = some (.inr (9, fs1))) (e3 : fs1[15]? = some (.int v_fs1_15)) (K1 : v_fs1_15 ≤ x_2 → ip sc call 142 MC MS Q 42 [some (.ref r_0), some (.int x_1), some (.int x_2), o_3, o_4, o_5] [] h z c s) (K2 : ¬ (v_fs1_15 ≤ x_2) → ip sc call 142 MC MS Q 24 [some (.ref r_0), some (.int x_1), some (.int x_2), o_3, o_4, o_5] [] h z c s) : ip sc call 142 MC MS Q 16 [some (.ref r_0), some (.int x_1), some (.int x_2), o_3, o_4, o_5] [] h z c s := by
  refine jp_load (pc2 := 17) (n := 2) rfl rfl rfl rfl ?_
  refine jp_load (pc2 := 18) (n := 0) rfl rfl rfl rfl ?_
  refine jp_getf (pc2 := 21) rfl rfl e2 e3 ?_
  exact jp_icmp (pc2 := 24) rfl rfl K1 K2
theorem b142_24 {r_0 : Nat} {x_1 : Int32} {x_2 : Int32} {o_3 : Option Value} {o_4 : Option Value} {o_5 : Option Value} {fs1 : List Value} {q_fs1_14 : Nat} {n4 : Nat} {f5 : Nat → Int32} (e2 : h r_0 = some (.inr (9, fs1))) (e3 : fs1[14]? = some (.ref q_fs1_14)) (e6 : h q_fs1_14 = some (.inl (2, n4, .inl f5))) (b7 : vp_in x_2 n4) (K : ip sc call 142 MC MS Q 16 [some (.ref r_0), some (.int ((31 * x_1) + (f5 x_2.toNatClampNeg))), some (.int (x_2 + 1)), o_3, o_4, o_5] [] h z c s) : ip sc call 142 MC MS Q 24 [some (.ref r_0), some (.int x_1), some (.int x_2), o_3, o_4, o_5] [] h z c s := by
  refine jp_con (pc2 := 26) (v := .int 31) rfl rfl rfl ?_
  refine jp_load (pc2 := 27) (n := 1) rfl rfl rfl rfl ?_
  refine jp_bin (pc2 := 28) (v := 31 * x_1) rfl rfl rfl ?_
  refine jp_load (pc2 := 29) (n := 0) rfl rfl rfl rfl ?_
  refine jp_getf (pc2 := 32) rfl rfl e2 e3 ?_
  refine jp_load (pc2 := 33) (n := 2) rfl rfl rfl rfl ?_
  refine jp_bald (pc2 := 34) rfl rfl e6 (by decide) b7 ?_
  refine jp_bin (pc2 := 35) (v := (31 * x_1) + (f5 x_2.toNatClampNeg)) rfl rfl rfl ?_
  refine jp_store (pc2 := 36) (n := 1) rfl rfl ⟨rfl, rfl⟩ rfl (Nat.le_of_ble_eq_true rfl) ?_
  refine jp_iinc (pc2 := 39) (n := 2) (v := x_2 + 1) rfl rfl rfl rfl rfl ?_
  refine ip_goto rfl ?_
  exact K
theorem b142_42 {r_0 : Nat} {x_1 : Int32} {o_2 : Option Value} {o_3 : Option Value} {o_4 : Option Value} {o_5 : Option Value}  (K : ip sc call 142 MC MS Q 55 [some (.ref r_0), some (.int x_1), some (.int ((x_1 ^^^ ((x_1.toUInt32 >>> ((15 : Int32).toUInt32 &&& Int32.toUInt32 31)).toInt32)) &&& 32767)), some (.int 0), o_4, o_5] [] h z c s) : ip sc call 142 MC MS Q 42 [some (.ref r_0), some (.int x_1), o_2, o_3, o_4, o_5] [] h z c s := by
  refine jp_load (pc2 := 43) (n := 1) rfl rfl rfl rfl ?_
  refine jp_load (pc2 := 44) (n := 1) rfl rfl rfl rfl ?_
  refine jp_con (pc2 := 46) (v := .int 15) rfl rfl rfl ?_
  refine jp_bin (pc2 := 47) (v := (x_1.toUInt32 >>> ((15 : Int32).toUInt32 &&& Int32.toUInt32 31)).toInt32) rfl rfl rfl ?_
  refine jp_bin (pc2 := 48) (v := x_1 ^^^ ((x_1.toUInt32 >>> ((15 : Int32).toUInt32 &&& Int32.toUInt32 31)).toInt32)) rfl rfl rfl ?_
  refine jp_con (pc2 := 51) (v := .int 32767) rfl rfl rfl ?_
  refine jp_bin (pc2 := 52) (v := (x_1 ^^^ ((x_1.toUInt32 >>> ((15 : Int32).toUInt32 &&& Int32.toUInt32 31)).toInt32)) &&& 32767) rfl rfl rfl ?_
  refine jp_store (pc2 := 53) (n := 2) rfl rfl ⟨rfl, rfl⟩ rfl (Nat.le_of_ble_eq_true rfl) ?_
  refine jp_con (pc2 := 54) (v := .int 0) rfl rfl rfl ?_
  refine jp_store (pc2 := 55) (n := 3) rfl rfl ⟨rfl, rfl⟩ rfl (Nat.le_of_ble_eq_true rfl) ?_
  exact K
theorem b142_55 {r_0 : Nat} {o_1 : Option Value} {x_2 : Int32} {x_3 : Int32} {o_4 : Option Value} {o_5 : Option Value}  (K1 : (200 : Int32) ≤ x_3 → ip sc call 142 MC MS Q 166 [some (.ref r_0), o_1, some (.int x_2), some (.int x_3), o_4, o_5] [] h z c s) (K2 : ¬ ((200 : Int32) ≤ x_3) → ip sc call 142 MC MS Q 62 [some (.ref r_0), o_1, some (.int x_2), some (.int x_3), o_4, o_5] [] h z c s) : ip sc call 142 MC MS Q 55 [some (.ref r_0), o_1, some (.int x_2), some (.int x_3), o_4, o_5] [] h z c s := by
  refine jp_load (pc2 := 56) (n := 3) rfl rfl rfl rfl ?_
  refine jp_con (pc2 := 59) (v := .int 200) rfl rfl rfl ?_
  exact jp_icmp (pc2 := 62) rfl rfl K1 K2
theorem b142_62 {r_0 : Nat} {o_1 : Option Value} {x_2 : Int32} {x_3 : Int32} {o_4 : Option Value} {o_5 : Option Value} {fs1 : List Value} {q_fs1_3 : Nat} {n4 : Nat} {f5 : Nat → Int32} (e2 : h r_0 = some (.inr (9, fs1))) (e3 : fs1[3]? = some (.ref q_fs1_3)) (e6 : h q_fs1_3 = some (.inl (0, n4, .inl f5))) (b7 : vp_in x_2 n4) (K1 : ¬ (f5 x_2.toNatClampNeg) = 0 → ip sc call 142 MC MS Q 73 [some (.ref r_0), o_1, some (.int x_2), some (.int x_3), o_4, o_5] [] h z c s) (K2 : ¬ (¬ (f5 x_2.toNatClampNeg) = 0) → ip sc call 142 MC MS Q 71 [some (.ref r_0), o_1, some (.int x_2), some (.int x_3), o_4, o_5] [] h z c s) : ip sc call 142 MC MS Q 62 [some (.ref r_0), o_1, some (.int x_2), some (.int x_3), o_4, o_5] [] h z c s := by
  refine jp_load (pc2 := 63) (n := 0) rfl rfl rfl rfl ?_
  refine jp_getf (pc2 := 66) rfl rfl e2 e3 ?_
  refine jp_load (pc2 := 67) (n := 2) rfl rfl rfl rfl ?_
  refine jp_iald (pc2 := 68) rfl rfl e6 b7 ?_
  exact jp_if0 (pc2 := 71) rfl rfl K1 K2
theorem b142_71 {o_0 : Option Value} {o_1 : Option Value} {x_2 : Int32} {o_3 : Option Value} {o_4 : Option Value} {o_5 : Option Value} (q1 : Q (some (.int x_2)) h z)  : ip sc call 142 MC MS Q 71 [o_0, o_1, some (.int x_2), o_3, o_4, o_5] [] h z c s := by
  refine jp_load (pc2 := 72) (n := 2) rfl rfl rfl rfl ?_
  exact ip_iret (st := []) rfl rfl rfl q1
theorem b142_73 {r_0 : Nat} {o_1 : Option Value} {x_2 : Int32} {x_3 : Int32} {o_4 : Option Value} {o_5 : Option Value} {fs1 : List Value} {q_fs1_3 : Nat} {n4 : Nat} {f5 : Nat → Int32} {v_fs1_15 : Int32} (e2 : h r_0 = some (.inr (9, fs1))) (e3 : fs1[3]? = some (.ref q_fs1_3)) (e6 : h q_fs1_3 = some (.inl (0, n4, .inl f5))) (b7 : vp_in x_2 n4) (e8 : fs1[15]? = some (.int v_fs1_15)) (K1 : ¬ (f5 x_2.toNatClampNeg) = v_fs1_15 → ip sc call 142 MC MS Q 90 [some (.ref r_0), o_1, some (.int x_2), some (.int x_3), o_4, o_5] [] h z c s) (K2 : ¬ (¬ (f5 x_2.toNatClampNeg) = v_fs1_15) → ip sc call 142 MC MS Q 86 [some (.ref r_0), o_1, some (.int x_2), some (.int x_3), o_4, o_5] [] h z c s) : ip sc call 142 MC MS Q 73 [some (.ref r_0), o_1, some (.int x_2), some (.int x_3), o_4, o_5] [] h z c s := by
  refine jp_load (pc2 := 74) (n := 0) rfl rfl rfl rfl ?_
  refine jp_getf (pc2 := 77) rfl rfl e2 e3 ?_
  refine jp_load (pc2 := 78) (n := 2) rfl rfl rfl rfl ?_
  refine jp_iald (pc2 := 79) rfl rfl e6 b7 ?_
  refine jp_load (pc2 := 80) (n := 0) rfl rfl rfl rfl ?_
  refine jp_getf (pc2 := 83) rfl rfl e2 e8 ?_
  exact jp_icmp (pc2 := 86) rfl rfl K1 K2
theorem b142_86 {r_0 : Nat} {o_1 : Option Value} {x_2 : Int32} {x_3 : Int32} {o_4 : Option Value} {o_5 : Option Value}  (K : ip sc call 142 MC MS Q 91 [some (.ref r_0), o_1, some (.int x_2), some (.int x_3), o_4, o_5] [(.int 1)] h z c s) : ip sc call 142 MC MS Q 86 [some (.ref r_0), o_1, some (.int x_2), some (.int x_3), o_4, o_5] [] h z c s := by
  refine jp_con (pc2 := 87) (v := .int 1) rfl rfl rfl ?_
  refine ip_goto rfl ?_
  exact K
theorem b142_90 {r_0 : Nat} {o_1 : Option Value} {x_2 : Int32} {x_3 : Int32} {o_4 : Option Value} {o_5 : Option Value}  (K : ip sc call 142 MC MS Q 91 [some (.ref r_0), o_1, some (.int x_2), some (.int x_3), o_4, o_5] [(.int 0)] h z c s) : ip sc call 142 MC MS Q 90 [some (.ref r_0), o_1, some (.int x_2), some (.int x_3), o_4, o_5] [] h z c s := by
  refine jp_con (pc2 := 91) (v := .int 0) rfl rfl rfl ?_
  exact K
theorem b142_91 {r_0 : Nat} {o_1 : Option Value} {x_2 : Int32} {x_3 : Int32} {o_4 : Option Value} {o_5 : Option Value} {sx_0 : Int32}  (K : ip sc call 142 MC MS Q 96 [some (.ref r_0), o_1, some (.int x_2), some (.int x_3), some (.int sx_0), some (.int 0)] [] h z c s) : ip sc call 142 MC MS Q 91 [some (.ref r_0), o_1, some (.int x_2), some (.int x_3), o_4, o_5] [(.int sx_0)] h z c s := by
  refine jp_store (pc2 := 93) (n := 4) rfl rfl ⟨rfl, rfl⟩ rfl (Nat.le_of_ble_eq_true rfl) ?_
  refine jp_con (pc2 := 94) (v := .int 0) rfl rfl rfl ?_
  refine jp_store (pc2 := 96) (n := 5) rfl rfl ⟨rfl, rfl⟩ rfl (Nat.le_of_ble_eq_true rfl) ?_
  exact K
theorem b142_96 {r_0 : Nat} {o_1 : Option Value} {x_2 : Int32} {x_3 : Int32} {x_4 : Int32} {x_5 : Int32} {fs1 : List Value} {v_fs1_15 : Int32} (e2 : h r_0 = some (.inr (9, fs1))) (e3 : fs1[15]? = some (.int v_fs1_15)) (K1 : v_fs1_15 ≤ x_5 → ip sc call 142 MC MS Q 145 [some (.ref r_0), o_1, some (.int x_2), some (.int x_3), some (.int x_4), some (.int x_5)] [] h z c s) (K2 : ¬ (v_fs1_15 ≤ x_5) → ip sc call 142 MC MS Q 105 [some (.ref r_0), o_1, some (.int x_2), some (.int x_3), some (.int x_4), some (.int x_5)] [] h z c s) : ip sc call 142 MC MS Q 96 [some (.ref r_0), o_1, some (.int x_2), some (.int x_3), some (.int x_4), some (.int x_5)] [] h z c s := by
  refine jp_load (pc2 := 98) (n := 5) rfl rfl rfl rfl ?_
  refine jp_load (pc2 := 99) (n := 0) rfl rfl rfl rfl ?_
  refine jp_getf (pc2 := 102) rfl rfl e2 e3 ?_
  exact jp_icmp (pc2 := 105) rfl rfl K1 K2
theorem b142_105 {r_0 : Nat} {o_1 : Option Value} {x_2 : Int32} {x_3 : Int32} {x_4 : Int32} {x_5 : Int32}  (K1 : x_4 = 0 → ip sc call 142 MC MS Q 145 [some (.ref r_0), o_1, some (.int x_2), some (.int x_3), some (.int x_4), some (.int x_5)] [] h z c s) (K2 : ¬ (x_4 = 0) → ip sc call 142 MC MS Q 110 [some (.ref r_0), o_1, some (.int x_2), some (.int x_3), some (.int x_4), some (.int x_5)] [] h z c s) : ip sc call 142 MC MS Q 105 [some (.ref r_0), o_1, some (.int x_2), some (.int x_3), some (.int x_4), some (.int x_5)] [] h z c s := by
  refine jp_load (pc2 := 107) (n := 4) rfl rfl rfl rfl ?_
  exact jp_if0 (pc2 := 110) rfl rfl K1 K2
theorem b142_110 {r_0 : Nat} {o_1 : Option Value} {x_2 : Int32} {x_3 : Int32} {o_4 : Option Value} {x_5 : Int32} {fs1 : List Value} {q_fs1_2 : Nat} {n4 : Nat} {f5 : Nat → Int32} {q_fs1_14 : Nat} {n9 : Nat} {f10 : Nat → Int32} (e2 : h r_0 = some (.inr (9, fs1))) (e3 : fs1[2]? = some (.ref q_fs1_2)) (e6 : h q_fs1_2 = some (.inl (2, n4, .inl f5))) (b7 : vp_in ((72 * x_2) + x_5) n4) (e8 : fs1[14]? = some (.ref q_fs1_14)) (e11 : h q_fs1_14 = some (.inl (2, n9, .inl f10))) (b12 : vp_in x_5 n9) (K1 : ¬ (f5 ((72 * x_2) + x_5).toNatClampNeg) = (f10 x_5.toNatClampNeg) → ip sc call 142 MC MS Q 136 [some (.ref r_0), o_1, some (.int x_2), some (.int x_3), o_4, some (.int x_5)] [] h z c s) (K2 : ¬ (¬ (f5 ((72 * x_2) + x_5).toNatClampNeg) = (f10 x_5.toNatClampNeg)) → ip sc call 142 MC MS Q 132 [some (.ref r_0), o_1, some (.int x_2), some (.int x_3), o_4, some (.int x_5)] [] h z c s) : ip sc call 142 MC MS Q 110 [some (.ref r_0), o_1, some (.int x_2), some (.int x_3), o_4, some (.int x_5)] [] h z c s := by
  refine jp_load (pc2 := 111) (n := 0) rfl rfl rfl rfl ?_
  refine jp_getf (pc2 := 114) rfl rfl e2 e3 ?_
  refine jp_con (pc2 := 116) (v := .int 72) rfl rfl rfl ?_
  refine jp_load (pc2 := 117) (n := 2) rfl rfl rfl rfl ?_
  refine jp_bin (pc2 := 118) (v := 72 * x_2) rfl rfl rfl ?_
  refine jp_load (pc2 := 120) (n := 5) rfl rfl rfl rfl ?_
  refine jp_bin (pc2 := 121) (v := (72 * x_2) + x_5) rfl rfl rfl ?_
  refine jp_bald (pc2 := 122) rfl rfl e6 (by decide) b7 ?_
  refine jp_load (pc2 := 123) (n := 0) rfl rfl rfl rfl ?_
  refine jp_getf (pc2 := 126) rfl rfl e2 e8 ?_
  refine jp_load (pc2 := 128) (n := 5) rfl rfl rfl rfl ?_
  refine jp_bald (pc2 := 129) rfl rfl e11 (by decide) b12 ?_
  exact jp_icmp (pc2 := 132) rfl rfl K1 K2
theorem b142_132 {r_0 : Nat} {o_1 : Option Value} {x_2 : Int32} {x_3 : Int32} {o_4 : Option Value} {x_5 : Int32}  (K : ip sc call 142 MC MS Q 137 [some (.ref r_0), o_1, some (.int x_2), some (.int x_3), o_4, some (.int x_5)] [(.int 1)] h z c s) : ip sc call 142 MC MS Q 132 [some (.ref r_0), o_1, some (.int x_2), some (.int x_3), o_4, some (.int x_5)] [] h z c s := by
  refine jp_con (pc2 := 133) (v := .int 1) rfl rfl rfl ?_
  refine ip_goto rfl ?_
  exact K
theorem b142_136 {r_0 : Nat} {o_1 : Option Value} {x_2 : Int32} {x_3 : Int32} {o_4 : Option Value} {x_5 : Int32}  (K : ip sc call 142 MC MS Q 137 [some (.ref r_0), o_1, some (.int x_2), some (.int x_3), o_4, some (.int x_5)] [(.int 0)] h z c s) : ip sc call 142 MC MS Q 136 [some (.ref r_0), o_1, some (.int x_2), some (.int x_3), o_4, some (.int x_5)] [] h z c s := by
  refine jp_con (pc2 := 137) (v := .int 0) rfl rfl rfl ?_
  exact K
theorem b142_137 {r_0 : Nat} {o_1 : Option Value} {x_2 : Int32} {x_3 : Int32} {o_4 : Option Value} {x_5 : Int32} {sx_0 : Int32}  (K : ip sc call 142 MC MS Q 96 [some (.ref r_0), o_1, some (.int x_2), some (.int x_3), some (.int sx_0), some (.int (x_5 + 1))] [] h z c s) : ip sc call 142 MC MS Q 137 [some (.ref r_0), o_1, some (.int x_2), some (.int x_3), o_4, some (.int x_5)] [(.int sx_0)] h z c s := by
  refine jp_store (pc2 := 139) (n := 4) rfl rfl ⟨rfl, rfl⟩ rfl (Nat.le_of_ble_eq_true rfl) ?_
  refine jp_iinc (pc2 := 142) (n := 5) (v := x_5 + 1) rfl rfl rfl rfl rfl ?_
  refine ip_goto rfl ?_
  exact K
theorem b142_145 {r_0 : Nat} {o_1 : Option Value} {x_2 : Int32} {x_3 : Int32} {x_4 : Int32} {o_5 : Option Value}  (K1 : x_4 = 0 → ip sc call 142 MC MS Q 152 [some (.ref r_0), o_1, some (.int x_2), some (.int x_3), some (.int x_4), o_5] [] h z c s) (K2 : ¬ (x_4 = 0) → ip sc call 142 MC MS Q 150 [some (.ref r_0), o_1, some (.int x_2), some (.int x_3), some (.int x_4), o_5] [] h z c s) : ip sc call 142 MC MS Q 145 [some (.ref r_0), o_1, some (.int x_2), some (.int x_3), some (.int x_4), o_5] [] h z c s := by
  refine jp_load (pc2 := 147) (n := 4) rfl rfl rfl rfl ?_
  exact jp_if0 (pc2 := 150) rfl rfl K1 K2
theorem b142_150 {o_0 : Option Value} {o_1 : Option Value} {x_2 : Int32} {o_3 : Option Value} {o_4 : Option Value} {o_5 : Option Value} (q1 : Q (some (.int x_2)) h z)  : ip sc call 142 MC MS Q 150 [o_0, o_1, some (.int x_2), o_3, o_4, o_5] [] h z c s := by
  refine jp_load (pc2 := 151) (n := 2) rfl rfl rfl rfl ?_
  exact ip_iret (st := []) rfl rfl rfl q1
theorem b142_152 {r_0 : Nat} {o_1 : Option Value} {x_2 : Int32} {x_3 : Int32} {o_4 : Option Value} {o_5 : Option Value} (k1 : ip2 o_1 = false) (K : ip sc call 142 MC MS Q 55 [some (.ref r_0), o_1, some (.int ((x_2 + 1) &&& 32767)), some (.int (x_3 + 1)), o_4, o_5] [] h z c s) : ip sc call 142 MC MS Q 152 [some (.ref r_0), o_1, some (.int x_2), some (.int x_3), o_4, o_5] [] h z c s := by
  refine jp_load (pc2 := 153) (n := 2) rfl rfl rfl rfl ?_
  refine jp_con (pc2 := 154) (v := .int 1) rfl rfl rfl ?_
  refine jp_bin (pc2 := 155) (v := x_2 + 1) rfl rfl rfl ?_
  refine jp_con (pc2 := 158) (v := .int 32767) rfl rfl rfl ?_
  refine jp_bin (pc2 := 159) (v := (x_2 + 1) &&& 32767) rfl rfl rfl ?_
  refine jp_store (pc2 := 160) (n := 2) rfl rfl ⟨rfl, rfl⟩ k1 (Nat.le_of_ble_eq_true rfl) ?_
  refine jp_iinc (pc2 := 163) (n := 3) (v := x_3 + 1) rfl rfl rfl rfl rfl ?_
  refine ip_goto rfl ?_
  exact K
theorem b142_166 {o_0 : Option Value} {o_1 : Option Value} {o_2 : Option Value} {o_3 : Option Value} {o_4 : Option Value} {o_5 : Option Value} (q1 : Q (some (.int ((-1)))) h z)  : ip sc call 142 MC MS Q 166 [o_0, o_1, o_2, o_3, o_4, o_5] [] h z c s := by
  refine jp_con (pc2 := 167) (v := .int (-1)) rfl rfl rfl ?_
  exact ip_iret (st := []) rfl rfl rfl q1
theorem b143_0 {x_0 : Int32} (q1 : Q (some (.int (40900 + (332 * x_0)))) h z)  : ip sc call 143 MC MS Q 0 [some (.int x_0)] [] h z c s := by
  refine jp_con (pc2 := 2) (v := .int 40900) rfl rfl rfl ?_
  refine jp_con (pc2 := 5) (v := .int 332) rfl rfl rfl ?_
  refine jp_load (pc2 := 6) (n := 0) rfl rfl rfl rfl ?_
  refine jp_bin (pc2 := 7) (v := 332 * x_0) rfl rfl rfl ?_
  refine jp_bin (pc2 := 8) (v := 40900 + (332 * x_0)) rfl rfl rfl ?_
  exact ip_iret (st := []) rfl rfl rfl q1
theorem b144_0 {r_0 : Nat} {x_1 : Int32} {x_2 : Int32} {o_3 : Option Value} {o_4 : Option Value} {o_5 : Option Value} {P : ipQ} (m1 : c ≤ MC) (m2 : s ≤ MS) (hc : call 143 [(.int x_2)] h z 0 0 P) (K : ∀ (o : Option Value) (h2 : HP) (z2 : Nat), P o h2 z2 → ip sc call 144 MC MS Q 4 [some (.ref r_0), some (.int x_1), some (.int x_2), o_3, o_4, o_5] (o.toList ++ []) h2 z2 c s) : ip sc call 144 MC MS Q 0 [some (.ref r_0), some (.int x_1), some (.int x_2), o_3, o_4, o_5] [] h z c s := by
  refine jp_load (pc2 := 1) (n := 2) rfl rfl rfl rfl ?_
  exact jp_stat0 (pc2 := 4) (As := [(.int x_2)]) (rest := []) rfl rfl rfl (Nat.le_of_ble_eq_true rfl) m1 m2 (by decide) hc rfl K
theorem b144_4 {r_0 : Nat} {x_1 : Int32} {x_2 : Int32} {o_3 : Option Value} {o_4 : Option Value} {o_5 : Option Value} {sx_0 : Int32} {fs1 : List Value} {P : ipQ} (e2 : h r_0 = some (.inr (9, fs1))) (m3 : c ≤ MC) (m4 : s ≤ MS) (hc : call 136 [(.ref r_0), (.int x_1), (.int sx_0)] h z 0 0 P) (K : ∀ (o : Option Value) (h2 : HP) (z2 : Nat), P o h2 z2 → ip sc call 144 MC MS Q 11 [some (.ref r_0), some (.int x_1), some (.int x_2), some (.int sx_0), o_4, o_5] (o.toList ++ []) h2 z2 c s) : ip sc call 144 MC MS Q 4 [some (.ref r_0), some (.int x_1), some (.int x_2), o_3, o_4, o_5] [(.int sx_0)] h z c s := by
  refine jp_store (pc2 := 5) (n := 3) rfl rfl ⟨rfl, rfl⟩ rfl (Nat.le_of_ble_eq_true rfl) ?_
  refine jp_load (pc2 := 6) (n := 0) rfl rfl rfl rfl ?_
  refine jp_load (pc2 := 7) (n := 1) rfl rfl rfl rfl ?_
  refine jp_load (pc2 := 8) (n := 3) rfl rfl rfl rfl ?_
  exact jp_virt0 (pc2 := 11) (As := [(.int x_1), (.int sx_0)]) (rest := []) rfl rfl rfl (Nat.le_of_ble_eq_true rfl) e2 m3 m4 hc rfl K
theorem b144_11 {r_0 : Nat} {o_1 : Option Value} {x_2 : Int32} {x_3 : Int32} {o_4 : Option Value} {o_5 : Option Value}  (K : ip sc call 144 MC MS Q 17 [some (.ref r_0), o_1, some (.int x_2), some (.int x_3), some (.int 0), some (.int 0)] [] h z c s) : ip sc call 144 MC MS Q 11 [some (.ref r_0), o_1, some (.int x_2), some (.int x_3), o_4, o_5] [] h z c s := by
  refine jp_con (pc2 := 12) (v := .int 0) rfl rfl rfl ?_
  refine jp_store (pc2 := 14) (n := 4) rfl rfl ⟨rfl, rfl⟩ rfl (Nat.le_of_ble_eq_true rfl) ?_
  refine jp_con (pc2 := 15) (v := .int 0) rfl rfl rfl ?_
  refine jp_store (pc2 := 17) (n := 5) rfl rfl ⟨rfl, rfl⟩ rfl (Nat.le_of_ble_eq_true rfl) ?_
  exact K
theorem b144_17 {r_0 : Nat} {o_1 : Option Value} {x_2 : Int32} {x_3 : Int32} {x_4 : Int32} {x_5 : Int32} {fs1 : List Value} {q_fs1_0 : Nat} {n4 : Nat} {f5 : Nat → Int32} (e2 : h r_0 = some (.inr (9, fs1))) (e3 : fs1[0]? = some (.ref q_fs1_0)) (e6 : h q_fs1_0 = some (.inl (0, n4, .inl f5))) (b7 : vp_in (x_3 + 1) n4) (K1 : (f5 (x_3 + 1).toNatClampNeg) ≤ x_5 → ip sc call 144 MC MS Q 81 [some (.ref r_0), o_1, some (.int x_2), some (.int x_3), some (.int x_4), some (.int x_5)] [] h z c s) (K2 : ¬ ((f5 (x_3 + 1).toNatClampNeg) ≤ x_5) → ip sc call 144 MC MS Q 30 [some (.ref r_0), o_1, some (.int x_2), some (.int x_3), some (.int x_4), some (.int x_5)] [] h z c s) : ip sc call 144 MC MS Q 17 [some (.ref r_0), o_1, some (.int x_2), some (.int x_3), some (.int x_4), some (.int x_5)] [] h z c s := by
  refine jp_load (pc2 := 19) (n := 5) rfl rfl rfl rfl ?_
  refine jp_load (pc2 := 20) (n := 0) rfl rfl rfl rfl ?_
  refine jp_getf (pc2 := 23) rfl rfl e2 e3 ?_
  refine jp_load (pc2 := 24) (n := 3) rfl rfl rfl rfl ?_
  refine jp_con (pc2 := 25) (v := .int 1) rfl rfl rfl ?_
  refine jp_bin (pc2 := 26) (v := x_3 + 1) rfl rfl rfl ?_
  refine jp_iald (pc2 := 27) rfl rfl e6 b7 ?_
  exact jp_icmp (pc2 := 30) rfl rfl K1 K2
theorem b144_30 {r_0 : Nat} {o_1 : Option Value} {x_2 : Int32} {x_3 : Int32} {x_4 : Int32} {x_5 : Int32} {fs1 : List Value} {P : ipQ} (e2 : h r_0 = some (.inr (9, fs1))) (m3 : c ≤ MC) (m4 : s ≤ MS) (hc : call 137 [(.ref r_0), (.int x_3)] h z 0 0 P) (K : ∀ (o : Option Value) (h2 : HP) (z2 : Nat), P o h2 z2 → ip sc call 144 MC MS Q 35 [some (.ref r_0), o_1, some (.int x_2), some (.int x_3), some (.int x_4), some (.int x_5)] (o.toList ++ []) h2 z2 c s) : ip sc call 144 MC MS Q 30 [some (.ref r_0), o_1, some (.int x_2), some (.int x_3), some (.int x_4), some (.int x_5)] [] h z c s := by
  refine jp_load (pc2 := 31) (n := 0) rfl rfl rfl rfl ?_
  refine jp_load (pc2 := 32) (n := 3) rfl rfl rfl rfl ?_
  exact jp_virt0 (pc2 := 35) (As := [(.int x_3)]) (rest := []) rfl rfl rfl (Nat.le_of_ble_eq_true rfl) e2 m3 m4 hc rfl K
theorem b144_35 {r_0 : Nat} {o_1 : Option Value} {x_2 : Int32} {x_3 : Int32} {x_4 : Int32} {x_5 : Int32} {fs1 : List Value} {q_fs1_13 : Nat} {n4 : Nat} {f5 : Nat → Int32} (e2 : h r_0 = some (.inr (9, fs1))) (e3 : fs1[13]? = some (.ref q_fs1_13)) (e6 : h q_fs1_13 = some (.inl (0, n4, .inl f5))) (b7 : vp_in x_5 n4) (K1 : (f5 x_5.toNatClampNeg) = x_5 → ip sc call 144 MC MS Q 50 [some (.ref r_0), o_1, some (.int x_2), some (.int x_3), some (.int x_4), some (.int x_5)] [] h z c s) (K2 : ¬ ((f5 x_5.toNatClampNeg) = x_5) → ip sc call 144 MC MS Q 47 [some (.ref r_0), o_1, some (.int x_2), some (.int x_3), some (.int x_4), some (.int x_5)] [] h z c s) : ip sc call 144 MC MS Q 35 [some (.ref r_0), o_1, some (.int x_2), some (.int x_3), some (.int x_4), some (.int x_5)] [] h z c s := by
  refine jp_load (pc2 := 36) (n := 0) rfl rfl rfl rfl ?_
  refine jp_getf (pc2 := 39) rfl rfl e2 e3 ?_
  refine jp_load (pc2 := 41) (n := 5) rfl rfl rfl rfl ?_
  refine jp_iald (pc2 := 42) rfl rfl e6 b7 ?_
  refine jp_load (pc2 := 44) (n := 5) rfl rfl rfl rfl ?_
  exact jp_icmp (pc2 := 47) rfl rfl K1 K2
theorem b144_47 {r_0 : Nat} {o_1 : Option Value} {x_2 : Int32} {x_3 : Int32} {x_4 : Int32} {x_5 : Int32}  (K : ip sc call 144 MC MS Q 75 [some (.ref r_0), o_1, some (.int x_2), some (.int x_3), some (.int x_4), some (.int x_5)] [] h z c s) : ip sc call 144 MC MS Q 47 [some (.ref r_0), o_1, some (.int x_2), some (.int x_3), some (.int x_4), some (.int x_5)] [] h z c s := by
  refine ip_goto rfl ?_
  exact K
theorem b144_50 {r_0 : Nat} {o_1 : Option Value} {x_2 : Int32} {x_3 : Int32} {x_4 : Int32} {x_5 : Int32} {P : ipQ} (m1 : c ≤ MC) (m2 : s ≤ MS) (hc : call 143 [(.int (x_2 + 1))] h z 0 0 P) (K : ∀ (o : Option Value) (h2 : HP) (z2 : Nat), P o h2 z2 → ip sc call 144 MC MS Q 58 [some (.ref r_0), o_1, some (.int x_2), some (.int x_3), some (.int x_4), some (.int x_5)] (o.toList ++ [(.int x_3), (.ref r_0)]) h2 z2 c s) : ip sc call 144 MC MS Q 50 [some (.ref r_0), o_1, some (.int x_2), some (.int x_3), some (.int x_4), some (.int x_5)] [] h z c s := by
  refine jp_load (pc2 := 51) (n := 0) rfl rfl rfl rfl ?_
  refine jp_load (pc2 := 52) (n := 3) rfl rfl rfl rfl ?_
  refine jp_load (pc2 := 53) (n := 2) rfl rfl rfl rfl ?_
  refine jp_con (pc2 := 54) (v := .int 1) rfl rfl rfl ?_
  refine jp_bin (pc2 := 55) (v := x_2 + 1) rfl rfl rfl ?_
  exact jp_stat0 (pc2 := 58) (As := [(.int (x_2 + 1))]) (rest := [(.int x_3), (.ref r_0)]) rfl rfl rfl (Nat.le_of_ble_eq_true rfl) m1 m2 (by decide) hc rfl K
theorem b144_58 {r_0 : Nat} {o_1 : Option Value} {x_2 : Int32} {x_3 : Int32} {x_4 : Int32} {x_5 : Int32} {sr_0 : Nat} {sx_1 : Int32} {sx_2 : Int32} {fs1 : List Value} {P : ipQ} (e2 : h sr_0 = some (.inr (9, fs1))) (m3 : c ≤ MC) (m4 : s ≤ MS) (hc : call 139 [(.ref sr_0), (.int sx_1), (.int sx_2), (.int x_5)] h z 0 0 P) (K : ∀ (o : Option Value) (h2 : HP) (z2 : Nat), P o h2 z2 → ip sc call 144 MC MS Q 63 [some (.ref r_0), o_1, some (.int x_2), some (.int x_3), some (.int x_4), some (.int x_5)] (o.toList ++ []) h2 z2 c s) : ip sc call 144 MC MS Q 58 [some (.ref r_0), o_1, some (.int x_2), some (.int x_3), some (.int x_4), some (.int x_5)] [(.int sx_2), (.int sx_1), (.ref sr_0)] h z c s := by
  refine jp_load (pc2 := 60) (n := 5) rfl rfl rfl rfl ?_
  exact jp_virt0 (pc2 := 63) (As := [(.int sx_1), (.int sx_2), (.int x_5)]) (rest := []) rfl rfl rfl (Nat.le_of_ble_eq_true rfl) e2 m3 m4 hc rfl K
theorem b144_63 {r_0 : Nat} {o_1 : Option Value} {x_2 : Int32} {x_3 : Int32} {x_4 : Int32} {x_5 : Int32} {fs1 : List Value} {P : ipQ} (e2 : h r_0 = some (.inr (9, fs1))) (m3 : c ≤ MC) (m4 : s ≤ MS) (hc : call 145 [(.ref r_0), (.int (x_2 + 1))] h z 0 0 P) (K : ∀ (o : Option Value) (h2 : HP) (z2 : Nat), P o h2 z2 → ip sc call 144 MC MS Q 72 [some (.ref r_0), o_1, some (.int x_2), some (.int x_3), some (.int x_4), some (.int x_5)] (o.toList ++ [(.int x_4)]) h2 z2 c s) : ip sc call 144 MC MS Q 63 [some (.ref r_0), o_1, some (.int x_2), some (.int x_3), some (.int x_4), some (.int x_5)] [] h z c s := by
  refine jp_load (pc2 := 65) (n := 4) rfl rfl rfl rfl ?_
  refine jp_load (pc2 := 66) (n := 0) rfl rfl rfl rfl ?_
  refine jp_load (pc2 := 67) (n := 2) rfl rfl rfl rfl ?_
  refine jp_con (pc2 := 68) (v := .int 1) rfl rfl rfl ?_
  refine jp_bin (pc2 := 69) (v := x_2 + 1) rfl rfl rfl ?_
  exact jp_virt0 (pc2 := 72) (As := [(.int (x_2 + 1))]) (rest := [(.int x_4)]) rfl rfl rfl (Nat.le_of_ble_eq_true rfl) e2 m3 m4 hc rfl K
theorem b144_72 {r_0 : Nat} {o_1 : Option Value} {x_2 : Int32} {x_3 : Int32} {o_4 : Option Value} {x_5 : Int32} {sx_0 : Int32} {sx_1 : Int32}  (K : ip sc call 144 MC MS Q 75 [some (.ref r_0), o_1, some (.int x_2), some (.int x_3), some (.int (sx_0 ^^^ sx_1)), some (.int x_5)] [] h z c s) : ip sc call 144 MC MS Q 72 [some (.ref r_0), o_1, some (.int x_2), some (.int x_3), o_4, some (.int x_5)] [(.int sx_1), (.int sx_0)] h z c s := by
  refine jp_bin (pc2 := 73) (v := sx_0 ^^^ sx_1) rfl rfl rfl ?_
  refine jp_store (pc2 := 75) (n := 4) rfl rfl ⟨rfl, rfl⟩ rfl (Nat.le_of_ble_eq_true rfl) ?_
  exact K
theorem b144_75 {r_0 : Nat} {o_1 : Option Value} {x_2 : Int32} {x_3 : Int32} {x_4 : Int32} {x_5 : Int32}  (K : ip sc call 144 MC MS Q 17 [some (.ref r_0), o_1, some (.int x_2), some (.int x_3), some (.int x_4), some (.int (x_5 + 1))] [] h z c s) : ip sc call 144 MC MS Q 75 [some (.ref r_0), o_1, some (.int x_2), some (.int x_3), some (.int x_4), some (.int x_5)] [] h z c s := by
  refine jp_iinc (pc2 := 78) (n := 5) (v := x_5 + 1) rfl rfl rfl rfl rfl ?_
  refine ip_goto rfl ?_
  exact K
theorem b144_81 {o_0 : Option Value} {o_1 : Option Value} {o_2 : Option Value} {o_3 : Option Value} {x_4 : Int32} {o_5 : Option Value} (q1 : Q (some (.int x_4)) h z)  : ip sc call 144 MC MS Q 81 [o_0, o_1, o_2, o_3, some (.int x_4), o_5] [] h z c s := by
  refine jp_load (pc2 := 83) (n := 4) rfl rfl rfl rfl ?_
  exact ip_iret (st := []) rfl rfl rfl q1
theorem b145_0 {r_0 : Nat} {x_1 : Int32} {o_2 : Option Value} {o_3 : Option Value} {o_4 : Option Value} {o_5 : Option Value} {o_6 : Option Value} {o_7 : Option Value} {o_8 : Option Value} {o_9 : Option Value} {o_10 : Option Value} {o_11 : Option Value} {o_12 : Option Value} {P : ipQ} (m1 : c ≤ MC) (m2 : s ≤ MS) (hc : call 143 [(.int x_1)] h z 0 0 P) (K : ∀ (o : Option Value) (h2 : HP) (z2 : Nat), P o h2 z2 → ip sc call 145 MC MS Q 4 [some (.ref r_0), some (.int x_1), o_2, o_3, o_4, o_5, o_6, o_7, o_8, o_9, o_10, o_11, o_12] (o.toList ++ []) h2 z2 c s) : ip sc call 145 MC MS Q 0 [some (.ref r_0), some (.int x_1), o_2, o_3, o_4, o_5, o_6, o_7, o_8, o_9, o_10, o_11, o_12] [] h z c s := by
  refine jp_load (pc2 := 1) (n := 1) rfl rfl rfl rfl ?_
  exact jp_stat0 (pc2 := 4) (As := [(.int x_1)]) (rest := []) rfl rfl rfl (Nat.le_of_ble_eq_true rfl) m1 m2 (by decide) hc rfl K
theorem b145_4 {r_0 : Nat} {x_1 : Int32} {o_2 : Option Value} {o_3 : Option Value} {o_4 : Option Value} {o_5 : Option Value} {o_6 : Option Value} {o_7 : Option Value} {o_8 : Option Value} {o_9 : Option Value} {o_10 : Option Value} {o_11 : Option Value} {o_12 : Option Value} {sx_0 : Int32} {fs1 : List Value} {P : ipQ} (e2 : h r_0 = some (.inr (9, fs1))) (m3 : c ≤ MC) (m4 : s ≤ MS) (hc : call 140 [(.ref r_0), (.int sx_0)] h z 0 0 P) (K : ∀ (o : Option Value) (h2 : HP) (z2 : Nat), P o h2 z2 → ip sc call 145 MC MS Q 10 [some (.ref r_0), some (.int x_1), some (.int sx_0), o_3, o_4, o_5, o_6, o_7, o_8, o_9, o_10, o_11, o_12] (o.toList ++ []) h2 z2 c s) : ip sc call 145 MC MS Q 4 [some (.ref r_0), some (.int x_1), o_2, o_3, o_4, o_5, o_6, o_7, o_8, o_9, o_10, o_11, o_12] [(.int sx_0)] h z c s := by
  refine jp_store (pc2 := 5) (n := 2) rfl rfl ⟨rfl, rfl⟩ rfl (Nat.le_of_ble_eq_true rfl) ?_
  refine jp_load (pc2 := 6) (n := 0) rfl rfl rfl rfl ?_
  refine jp_load (pc2 := 7) (n := 2) rfl rfl rfl rfl ?_
  exact jp_virt0 (pc2 := 10) (As := [(.int sx_0)]) (rest := []) rfl rfl rfl (Nat.le_of_ble_eq_true rfl) e2 m3 m4 hc rfl K
theorem b145_10 {r_0 : Nat} {x_1 : Int32} {x_2 : Int32} {o_3 : Option Value} {o_4 : Option Value} {o_5 : Option Value} {o_6 : Option Value} {o_7 : Option Value} {o_8 : Option Value} {o_9 : Option Value} {o_10 : Option Value} {o_11 : Option Value} {o_12 : Option Value} {fs1 : List Value} {P : ipQ} (e2 : h r_0 = some (.inr (9, fs1))) (m3 : c ≤ MC) (m4 : s ≤ MS) (hc : call 142 [(.ref r_0)] h z 0 0 P) (K : ∀ (o : Option Value) (h2 : HP) (z2 : Nat), P o h2 z2 → ip sc call 145 MC MS Q 14 [some (.ref r_0), some (.int x_1), some (.int x_2), o_3, o_4, o_5, o_6, o_7, o_8, o_9, o_10, o_11, o_12] (o.toList ++ []) h2 z2 c s) : ip sc call 145 MC MS Q 10 [some (.ref r_0), some (.int x_1), some (.int x_2), o_3, o_4, o_5, o_6, o_7, o_8, o_9, o_10, o_11, o_12] [] h z c s := by
  refine jp_load (pc2 := 11) (n := 0) rfl rfl rfl rfl ?_
  exact jp_virt0 (pc2 := 14) (As := []) (rest := []) rfl rfl rfl (Nat.le_of_ble_eq_true rfl) e2 m3 m4 hc rfl K
theorem b145_14 {r_0 : Nat} {x_1 : Int32} {x_2 : Int32} {o_3 : Option Value} {o_4 : Option Value} {o_5 : Option Value} {o_6 : Option Value} {o_7 : Option Value} {o_8 : Option Value} {o_9 : Option Value} {o_10 : Option Value} {o_11 : Option Value} {o_12 : Option Value} {sx_0 : Int32}  (K1 : sx_0 < 0 → ip sc call 145 MC MS Q 35 [some (.ref r_0), some (.int x_1), some (.int x_2), some (.int sx_0), o_4, o_5, o_6, o_7, o_8, o_9, o_10, o_11, o_12] [] h z c s) (K2 : ¬ (sx_0 < 0) → ip sc call 145 MC MS Q 19 [some (.ref r_0), some (.int x_1), some (.int x_2), some (.int sx_0), o_4, o_5, o_6, o_7, o_8, o_9, o_10, o_11, o_12] [] h z c s) : ip sc call 145 MC MS Q 14 [some (.ref r_0), some (.int x_1), some (.int x_2), o_3, o_4, o_5, o_6, o_7, o_8, o_9, o_10, o_11, o_12] [(.int sx_0)] h z c s := by
  refine jp_store (pc2 := 15) (n := 3) rfl rfl ⟨rfl, rfl⟩ rfl (Nat.le_of_ble_eq_true rfl) ?_
  refine jp_load (pc2 := 16) (n := 3) rfl rfl rfl rfl ?_
  exact jp_if0 (pc2 := 19) rfl rfl K1 K2
theorem b145_19 {r_0 : Nat} {x_1 : Int32} {x_2 : Int32} {x_3 : Int32} {o_4 : Option Value} {o_5 : Option Value} {o_6 : Option Value} {o_7 : Option Value} {o_8 : Option Value} {o_9 : Option Value} {o_10 : Option Value} {o_11 : Option Value} {o_12 : Option Value} {fs1 : List Value} {q_fs1_3 : Nat} {n4 : Nat} {f5 : Nat → Int32} (e2 : h r_0 = some (.inr (9, fs1))) (e3 : fs1[3]? = some (.ref q_fs1_3)) (e6 : h q_fs1_3 = some (.inl (0, n4, .inl f5))) (b7 : vp_in x_3 n4) (K1 : (f5 x_3.toNatClampNeg) ≤ 0 → ip sc call 145 MC MS Q 35 [some (.ref r_0), some (.int x_1), some (.int x_2), some (.int x_3), o_4, o_5, o_6, o_7, o_8, o_9, o_10, o_11, o_12] [] h z c s) (K2 : ¬ ((f5 x_3.toNatClampNeg) ≤ 0) → ip sc call 145 MC MS Q 28 [some (.ref r_0), some (.int x_1), some (.int x_2), some (.int x_3), o_4, o_5, o_6, o_7, o_8, o_9, o_10, o_11, o_12] [] h z c s) : ip sc call 145 MC MS Q 19 [some (.ref r_0), some (.int x_1), some (.int x_2), some (.int x_3), o_4, o_5, o_6, o_7, o_8, o_9, o_10, o_11, o_12] [] h z c s := by
  refine jp_load (pc2 := 20) (n := 0) rfl rfl rfl rfl ?_
  refine jp_getf (pc2 := 23) rfl rfl e2 e3 ?_
  refine jp_load (pc2 := 24) (n := 3) rfl rfl rfl rfl ?_
  refine jp_iald (pc2 := 25) rfl rfl e6 b7 ?_
  exact jp_if0 (pc2 := 28) rfl rfl K1 K2
theorem b145_28 {r_0 : Nat} {o_1 : Option Value} {o_2 : Option Value} {x_3 : Int32} {o_4 : Option Value} {o_5 : Option Value} {o_6 : Option Value} {o_7 : Option Value} {o_8 : Option Value} {o_9 : Option Value} {o_10 : Option Value} {o_11 : Option Value} {o_12 : Option Value} {fs1 : List Value} {q_fs1_4 : Nat} {n4 : Nat} {f5 : Nat → Int32} (e2 : h r_0 = some (.inr (9, fs1))) (e3 : fs1[4]? = some (.ref q_fs1_4)) (e6 : h q_fs1_4 = some (.inl (2, n4, .inl f5))) (b7 : vp_in x_3 n4) (q8 : Q (some (.int (f5 x_3.toNatClampNeg))) h z)  : ip sc call 145 MC MS Q 28 [some (.ref r_0), o_1, o_2, some (.int x_3), o_4, o_5, o_6, o_7, o_8, o_9, o_10, o_11, o_12] [] h z c s := by
  refine jp_load (pc2 := 29) (n := 0) rfl rfl rfl rfl ?_
  refine jp_getf (pc2 := 32) rfl rfl e2 e3 ?_
  refine jp_load (pc2 := 33) (n := 3) rfl rfl rfl rfl ?_
  refine jp_bald (pc2 := 34) rfl rfl e6 (by decide) b7 ?_
  exact ip_iret (st := []) rfl rfl rfl q8
theorem b145_35 {r_0 : Nat} {x_1 : Int32} {x_2 : Int32} {o_3 : Option Value} {o_4 : Option Value} {o_5 : Option Value} {o_6 : Option Value} {o_7 : Option Value} {o_8 : Option Value} {o_9 : Option Value} {o_10 : Option Value} {o_11 : Option Value} {o_12 : Option Value} {fs2 : List Value} {P : ipQ} (k1 : ip2 o_3 = false) (e3 : h r_0 = some (.inr (9, fs2))) (m4 : c ≤ MC) (m5 : s ≤ MS) (hc : call 112 [(.ref r_0)] h z 0 0 P) (K : ∀ (o : Option Value) (h2 : HP) (z2 : Nat), P o h2 z2 → ip sc call 145 MC MS Q 42 [some (.ref r_0), some (.int x_1), some (.int x_2), o_3, some (.int 0), o_5, o_6, o_7, o_8, o_9, o_10, o_11, o_12] (o.toList ++ []) h2 z2 c s) : ip sc call 145 MC MS Q 35 [some (.ref r_0), some (.int x_1), some (.int x_2), o_3, o_4, o_5, o_6, o_7, o_8, o_9, o_10, o_11, o_12] [] h z c s := by
  refine jp_con (pc2 := 36) (v := .int 0) rfl rfl rfl ?_
  refine jp_store (pc2 := 38) (n := 4) rfl rfl ⟨rfl, rfl⟩ k1 (Nat.le_of_ble_eq_true rfl) ?_
  refine jp_load (pc2 := 39) (n := 0) rfl rfl rfl rfl ?_
  exact jp_virt0 (pc2 := 42) (As := []) (rest := []) rfl rfl rfl (Nat.le_of_ble_eq_true rfl) e3 m4 m5 hc rfl K
theorem b145_42 {r_0 : Nat} {x_1 : Int32} {x_2 : Int32} {o_3 : Option Value} {x_4 : Int32} {o_5 : Option Value} {o_6 : Option Value} {o_7 : Option Value} {o_8 : Option Value} {o_9 : Option Value} {o_10 : Option Value} {o_11 : Option Value} {o_12 : Option Value} {fs1 : List Value} {P : ipQ} (e2 : h r_0 = some (.inr (9, fs1))) (m3 : c ≤ MC) (m4 : s ≤ MS) (hc : call 114 [(.ref r_0), (.int x_2)] h z 0 0 P) (K : ∀ (o : Option Value) (h2 : HP) (z2 : Nat), P o h2 z2 → ip sc call 145 MC MS Q 47 [some (.ref r_0), some (.int x_1), some (.int x_2), o_3, some (.int x_4), o_5, o_6, o_7, o_8, o_9, o_10, o_11, o_12] (o.toList ++ []) h2 z2 c s) : ip sc call 145 MC MS Q 42 [some (.ref r_0), some (.int x_1), some (.int x_2), o_3, some (.int x_4), o_5, o_6, o_7, o_8, o_9, o_10, o_11, o_12] [] h z c s := by
  refine jp_load (pc2 := 43) (n := 0) rfl rfl rfl rfl ?_
  refine jp_load (pc2 := 44) (n := 2) rfl rfl rfl rfl ?_
  exact jp_virt0 (pc2 := 47) (As := [(.int x_2)]) (rest := []) rfl rfl rfl (Nat.le_of_ble_eq_true rfl) e2 m3 m4 hc rfl K
theorem b145_47 {r_0 : Nat} {x_1 : Int32} {x_2 : Int32} {o_3 : Option Value} {x_4 : Int32} {o_5 : Option Value} {o_6 : Option Value} {o_7 : Option Value} {o_8 : Option Value} {o_9 : Option Value} {o_10 : Option Value} {o_11 : Option Value} {o_12 : Option Value} {sx_0 : Int32}  (K1 : sx_0 = 0 → ip sc call 145 MC MS Q 174 [some (.ref r_0), some (.int x_1), some (.int x_2), o_3, some (.int x_4), o_5, o_6, o_7, o_8, o_9, o_10, o_11, o_12] [] h z c s) (K2 : ¬ (sx_0 = 0) → ip sc call 145 MC MS Q 50 [some (.ref r_0), some (.int x_1), some (.int x_2), o_3, some (.int x_4), o_5, o_6, o_7, o_8, o_9, o_10, o_11, o_12] [] h z c s) : ip sc call 145 MC MS Q 47 [some (.ref r_0), some (.int x_1), some (.int x_2), o_3, some (.int x_4), o_5, o_6, o_7, o_8, o_9, o_10, o_11, o_12] [(.int sx_0)] h z c s := by
  exact jp_if0 (pc2 := 50) rfl rfl K1 K2
theorem b145_50 {r_0 : Nat} {x_1 : Int32} {x_2 : Int32} {o_3 : Option Value} {x_4 : Int32} {o_5 : Option Value} {o_6 : Option Value} {o_7 : Option Value} {o_8 : Option Value} {o_9 : Option Value} {o_10 : Option Value} {o_11 : Option Value} {o_12 : Option Value} {fs1 : List Value} {v_fs1_6 : Int32} {v_fs1_7 : Int32} {v_fs1_8 : Int32} {v_fs1_9 : Int32} {v_fs1_10 : Int32} {v_fs1_11 : Int32} {P : ipQ} (e2 : h r_0 = some (.inr (9, fs1))) (e3 : fs1[6]? = some (.int v_fs1_6)) (e4 : fs1[7]? = some (.int v_fs1_7)) (e5 : fs1[8]? = some (.int v_fs1_8)) (e6 : fs1[9]? = some (.int v_fs1_9)) (e7 : fs1[10]? = some (.int v_fs1_10)) (e8 : fs1[11]? = some (.int v_fs1_11)) (m9 : c ≤ MC) (m10 : s ≤ MS) (hc : call 143 [(.int (x_1 + 1))] h z 0 0 P) (K : ∀ (o : Option Value) (h2 : HP) (z2 : Nat), P o h2 z2 → ip sc call 145 MC MS Q 94 [some (.ref r_0), some (.int x_1), some (.int x_2), o_3, some (.int x_4), some (.int v_fs1_6), some (.int v_fs1_7), some (.int v_fs1_8), some (.int v_fs1_9), some (.int v_fs1_10), some (.int v_fs1_11), o_11, o_12] (o.toList ++ [(.int x_2), (.ref r_0)]) h2 z2 c s) : ip sc call 145 MC MS Q 50 [some (.ref r_0), some (.int x_1), some (.int x_2), o_3, some (.int x_4), o_5, o_6, o_7, o_8, o_9, o_10, o_11, o_12] [] h z c s := by
  refine jp_load (pc2 := 51) (n := 0) rfl rfl rfl rfl ?_
  refine jp_getf (pc2 := 54) rfl rfl e2 e3 ?_
  refine jp_store (pc2 := 56) (n := 5) rfl rfl ⟨rfl, rfl⟩ rfl (Nat.le_of_ble_eq_true rfl) ?_
  refine jp_load (pc2 := 57) (n := 0) rfl rfl rfl rfl ?_
  refine jp_getf (pc2 := 60) rfl rfl e2 e4 ?_
  refine jp_store (pc2 := 62) (n := 6) rfl rfl ⟨rfl, rfl⟩ rfl (Nat.le_of_ble_eq_true rfl) ?_
  refine jp_load (pc2 := 63) (n := 0) rfl rfl rfl rfl ?_
  refine jp_getf (pc2 := 66) rfl rfl e2 e5 ?_
  refine jp_store (pc2 := 68) (n := 7) rfl rfl ⟨rfl, rfl⟩ rfl (Nat.le_of_ble_eq_true rfl) ?_
  refine jp_load (pc2 := 69) (n := 0) rfl rfl rfl rfl ?_
  refine jp_getf (pc2 := 72) rfl rfl e2 e6 ?_
  refine jp_store (pc2 := 74) (n := 8) rfl rfl ⟨rfl, rfl⟩ rfl (Nat.le_of_ble_eq_true rfl) ?_
  refine jp_load (pc2 := 75) (n := 0) rfl rfl rfl rfl ?_
  refine jp_getf (pc2 := 78) rfl rfl e2 e7 ?_
  refine jp_store (pc2 := 80) (n := 9) rfl rfl ⟨rfl, rfl⟩ rfl (Nat.le_of_ble_eq_true rfl) ?_
  refine jp_load (pc2 := 81) (n := 0) rfl rfl rfl rfl ?_
  refine jp_getf (pc2 := 84) rfl rfl e2 e8 ?_
  refine jp_store (pc2 := 86) (n := 10) rfl rfl ⟨rfl, rfl⟩ rfl (Nat.le_of_ble_eq_true rfl) ?_
  refine jp_load (pc2 := 87) (n := 0) rfl rfl rfl rfl ?_
  refine jp_load (pc2 := 88) (n := 2) rfl rfl rfl rfl ?_
  refine jp_load (pc2 := 89) (n := 1) rfl rfl rfl rfl ?_
  refine jp_con (pc2 := 90) (v := .int 1) rfl rfl rfl ?_
  refine jp_bin (pc2 := 91) (v := x_1 + 1) rfl rfl rfl ?_
  exact jp_stat0 (pc2 := 94) (As := [(.int (x_1 + 1))]) (rest := [(.int x_2), (.ref r_0)]) rfl rfl rfl (Nat.le_of_ble_eq_true rfl) m9 m10 (by decide) hc rfl K
theorem b145_94 {r_0 : Nat} {x_1 : Int32} {x_2 : Int32} {o_3 : Option Value} {x_4 : Int32} {x_5 : Int32} {x_6 : Int32} {x_7 : Int32} {x_8 : Int32} {x_9 : Int32} {x_10 : Int32} {o_11 : Option Value} {o_12 : Option Value} {sr_0 : Nat} {sx_1 : Int32} {sx_2 : Int32} {fs1 : List Value} {P : ipQ} (e2 : h sr_0 = some (.inr (9, fs1))) (m3 : c ≤ MC) (m4 : s ≤ MS) (hc : call 108 [(.ref sr_0), (.int sx_1), (.int sx_2), (.int x_5), (.int x_6), (.int x_7), (.int x_8), (.int x_9), (.int x_10)] h z 0 0 P) (K : ∀ (o : Option Value) (h2 : HP) (z2 : Nat), P o h2 z2 → ip sc call 145 MC MS Q 109 [some (.ref r_0), some (.int x_1), some (.int x_2), o_3, some (.int x_4), some (.int x_5), some (.int x_6), some (.int x_7), some (.int x_8), some (.int x_9), some (.int x_10), o_11, o_12] (o.toList ++ []) h2 z2 c s) : ip sc call 145 MC MS Q 94 [some (.ref r_0), some (.int x_1), some (.int x_2), o_3, some (.int x_4), some (.int x_5), some (.int x_6), some (.int x_7), some (.int x_8), some (.int x_9), some (.int x_10), o_11, o_12] [(.int sx_2), (.int sx_1), (.ref sr_0)] h z c s := by
  refine jp_load (pc2 := 96) (n := 5) rfl rfl rfl rfl ?_
  refine jp_load (pc2 := 98) (n := 6) rfl rfl rfl rfl ?_
  refine jp_load (pc2 := 100) (n := 7) rfl rfl rfl rfl ?_
  refine jp_load (pc2 := 102) (n := 8) rfl rfl rfl rfl ?_
  refine jp_load (pc2 := 104) (n := 9) rfl rfl rfl rfl ?_
  refine jp_load (pc2 := 106) (n := 10) rfl rfl rfl rfl ?_
  exact jp_virt0 (pc2 := 109) (As := [(.int sx_1), (.int sx_2), (.int x_5), (.int x_6), (.int x_7), (.int x_8), (.int x_9), (.int x_10)]) (rest := []) rfl rfl rfl (Nat.le_of_ble_eq_true rfl) e2 m3 m4 hc rfl K
theorem b145_109 {r_0 : Nat} {x_1 : Int32} {x_2 : Int32} {o_3 : Option Value} {x_4 : Int32} {x_5 : Int32} {x_6 : Int32} {x_7 : Int32} {x_8 : Int32} {x_9 : Int32} {x_10 : Int32} {o_11 : Option Value} {o_12 : Option Value} {sx_0 : Int32} {P : ipQ} (m1 : c ≤ MC) (m2 : s ≤ MS) (hc : call 143 [(.int (x_1 + 1))] h z 0 0 P) (K : ∀ (o : Option Value) (h2 : HP) (z2 : Nat), P o h2 z2 → ip sc call 145 MC MS Q 118 [some (.ref r_0), some (.int x_1), some (.int x_2), o_3, some (.int x_4), some (.int x_5), some (.int x_6), some (.int x_7), some (.int x_8), some (.int x_9), some (.int x_10), some (.int sx_0), o_12] (o.toList ++ [(.ref r_0)]) h2 z2 c s) : ip sc call 145 MC MS Q 109 [some (.ref r_0), some (.int x_1), some (.int x_2), o_3, some (.int x_4), some (.int x_5), some (.int x_6), some (.int x_7), some (.int x_8), some (.int x_9), some (.int x_10), o_11, o_12] [(.int sx_0)] h z c s := by
  refine jp_store (pc2 := 111) (n := 11) rfl rfl ⟨rfl, rfl⟩ rfl (Nat.le_of_ble_eq_true rfl) ?_
  refine jp_load (pc2 := 112) (n := 0) rfl rfl rfl rfl ?_
  refine jp_load (pc2 := 113) (n := 1) rfl rfl rfl rfl ?_
  refine jp_con (pc2 := 114) (v := .int 1) rfl rfl rfl ?_
  refine jp_bin (pc2 := 115) (v := x_1 + 1) rfl rfl rfl ?_
  exact jp_stat0 (pc2 := 118) (As := [(.int (x_1 + 1))]) (rest := [(.ref r_0)]) rfl rfl rfl (Nat.le_of_ble_eq_true rfl) m1 m2 (by decide) hc rfl K
theorem b145_118 {r_0 : Nat} {x_1 : Int32} {x_2 : Int32} {o_3 : Option Value} {x_4 : Int32} {x_5 : Int32} {x_6 : Int32} {x_7 : Int32} {x_8 : Int32} {x_9 : Int32} {x_10 : Int32} {o_11 : Option Value} {o_12 : Option Value} {sr_0 : Nat} {sx_1 : Int32} {fs1 : List Value} {P : ipQ} (e2 : h sr_0 = some (.inr (9, fs1))) (m3 : c ≤ MC) (m4 : s ≤ MS) (hc : call 144 [(.ref sr_0), (.int sx_1), (.int (x_1 + 2))] h z 0 0 P) (K : ∀ (o : Option Value) (h2 : HP) (z2 : Nat), P o h2 z2 → ip sc call 145 MC MS Q 124 [some (.ref r_0), some (.int x_1), some (.int x_2), o_3, some (.int x_4), some (.int x_5), some (.int x_6), some (.int x_7), some (.int x_8), some (.int x_9), some (.int x_10), o_11, o_12] (o.toList ++ []) h2 z2 c s) : ip sc call 145 MC MS Q 118 [some (.ref r_0), some (.int x_1), some (.int x_2), o_3, some (.int x_4), some (.int x_5), some (.int x_6), some (.int x_7), some (.int x_8), some (.int x_9), some (.int x_10), o_11, o_12] [(.int sx_1), (.ref sr_0)] h z c s := by
  refine jp_load (pc2 := 119) (n := 1) rfl rfl rfl rfl ?_
  refine jp_con (pc2 := 120) (v := .int 2) rfl rfl rfl ?_
  refine jp_bin (pc2 := 121) (v := x_1 + 2) rfl rfl rfl ?_
  exact jp_virt0 (pc2 := 124) (As := [(.int sx_1), (.int (x_1 + 2))]) (rest := []) rfl rfl rfl (Nat.le_of_ble_eq_true rfl) e2 m3 m4 hc rfl K
theorem b145_124 {r_0 : Nat} {x_1 : Int32} {x_2 : Int32} {o_3 : Option Value} {x_4 : Int32} {x_5 : Int32} {x_6 : Int32} {x_7 : Int32} {x_8 : Int32} {x_9 : Int32} {x_10 : Int32} {o_11 : Option Value} {o_12 : Option Value} {sx_0 : Int32} {fs3 : List Value} (k1 : ip2 o_11 = false) (k2 : ip2 o_3 = false) (e4 : h r_0 = some (.inr (9, fs3))) (l5 : fs3.length = 16) (K : ip sc call 145 MC MS Q 42 [some (.ref r_0), some (.int x_1), some (.int x_2), o_3, some (.int (x_4 ||| (1 <<< (sx_0 &&& 31)))), some (.int x_5), some (.int x_6), some (.int x_7), some (.int x_8), some (.int x_9), some (.int x_10), o_11, some (.int sx_0)] [] (hup (hup (hup (hup (hup (hup h r_0 (.inr (9, (fs3.set 6 (.int x_5))))) r_0 (.inr (9, ((fs3.set 6 (.int x_5)).set 7 (.int x_6))))) r_0 (.inr (9, (((fs3.set 6 (.int x_5)).set 7 (.int x_6)).set 8 (.int x_7))))) r_0 (.inr (9, ((((fs3.set 6 (.int x_5)).set 7 (.int x_6)).set 8 (.int x_7)).set 9 (.int x_8))))) r_0 (.inr (9, (((((fs3.set 6 (.int x_5)).set 7 (.int x_6)).set 8 (.int x_7)).set 9 (.int x_8)).set 10 (.int x_9))))) r_0 (.inr (9, ((((((fs3.set 6 (.int x_5)).set 7 (.int x_6)).set 8 (.int x_7)).set 9 (.int x_8)).set 10 (.int x_9)).set 11 (.int x_10))))) z c s) : ip sc call 145 MC MS Q 124 [some (.ref r_0), some (.int x_1), some (.int x_2), o_3, some (.int x_4), some (.int x_5), some (.int x_6), some (.int x_7), some (.int x_8), some (.int x_9), some (.int x_10), o_11, o_12] [(.int sx_0)] h z c s := by
  refine jp_store (pc2 := 126) (n := 12) rfl rfl ⟨rfl, rfl⟩ k1 (Nat.le_of_ble_eq_true rfl) ?_
  refine jp_load (pc2 := 128) (n := 4) rfl rfl rfl rfl ?_
  refine jp_con (pc2 := 129) (v := .int 1) rfl rfl rfl ?_
  refine jp_load (pc2 := 131) (n := 12) rfl rfl rfl rfl ?_
  refine jp_bin (pc2 := 132) (v := 1 <<< (sx_0 &&& 31)) rfl rfl rfl ?_
  refine jp_bin (pc2 := 133) (v := x_4 ||| (1 <<< (sx_0 &&& 31))) rfl rfl rfl ?_
  refine jp_store (pc2 := 135) (n := 4) rfl rfl ⟨rfl, rfl⟩ k2 (Nat.le_of_ble_eq_true rfl) ?_
  refine jp_load (pc2 := 136) (n := 0) rfl rfl rfl rfl ?_
  refine jp_load (pc2 := 138) (n := 5) rfl rfl rfl rfl ?_
  refine jp_putf (pc2 := 141) rfl rfl e4 (ln_lt l5 (by decide)) ⟨rfl, rfl⟩ ?_
  refine jp_load (pc2 := 142) (n := 0) rfl rfl rfl rfl ?_
  refine jp_load (pc2 := 144) (n := 6) rfl rfl rfl rfl ?_
  refine jp_putf (pc2 := 147) rfl rfl hup_eq (ls_lt (ln_lt l5 (by decide))) ⟨rfl, rfl⟩ ?_
  refine jp_load (pc2 := 148) (n := 0) rfl rfl rfl rfl ?_
  refine jp_load (pc2 := 150) (n := 7) rfl rfl rfl rfl ?_
  refine jp_putf (pc2 := 153) rfl rfl hup_eq (ls_lt (ls_lt (ln_lt l5 (by decide)))) ⟨rfl, rfl⟩ ?_
  refine jp_load (pc2 := 154) (n := 0) rfl rfl rfl rfl ?_
  refine jp_load (pc2 := 156) (n := 8) rfl rfl rfl rfl ?_
  refine jp_putf (pc2 := 159) rfl rfl hup_eq (ls_lt (ls_lt (ls_lt (ln_lt l5 (by decide))))) ⟨rfl, rfl⟩ ?_
  refine jp_load (pc2 := 160) (n := 0) rfl rfl rfl rfl ?_
  refine jp_load (pc2 := 162) (n := 9) rfl rfl rfl rfl ?_
  refine jp_putf (pc2 := 165) rfl rfl hup_eq (ls_lt (ls_lt (ls_lt (ls_lt (ln_lt l5 (by decide)))))) ⟨rfl, rfl⟩ ?_
  refine jp_load (pc2 := 166) (n := 0) rfl rfl rfl rfl ?_
  refine jp_load (pc2 := 168) (n := 10) rfl rfl rfl rfl ?_
  refine jp_putf (pc2 := 171) rfl rfl hup_eq (ls_lt (ls_lt (ls_lt (ls_lt (ls_lt (ln_lt l5 (by decide))))))) ⟨rfl, rfl⟩ ?_
  refine ip_goto rfl ?_
  exact K
theorem b145_174 {r_0 : Nat} {o_1 : Option Value} {x_2 : Int32} {o_3 : Option Value} {x_4 : Int32} {o_5 : Option Value} {o_6 : Option Value} {o_7 : Option Value} {o_8 : Option Value} {o_9 : Option Value} {o_10 : Option Value} {o_11 : Option Value} {o_12 : Option Value}  (K : ip sc call 145 MC MS Q 177 [some (.ref r_0), o_1, some (.int x_2), o_3, some (.int x_4), some (.int 0), o_6, o_7, o_8, o_9, o_10, o_11, o_12] [] h z c s) : ip sc call 145 MC MS Q 174 [some (.ref r_0), o_1, some (.int x_2), o_3, some (.int x_4), o_5, o_6, o_7, o_8, o_9, o_10, o_11, o_12] [] h z c s := by
  refine jp_con (pc2 := 175) (v := .int 0) rfl rfl rfl ?_
  refine jp_store (pc2 := 177) (n := 5) rfl rfl ⟨rfl, rfl⟩ rfl (Nat.le_of_ble_eq_true rfl) ?_
  exact K
theorem b145_177 {r_0 : Nat} {o_1 : Option Value} {x_2 : Int32} {o_3 : Option Value} {x_4 : Int32} {x_5 : Int32} {o_6 : Option Value} {o_7 : Option Value} {o_8 : Option Value} {o_9 : Option Value} {o_10 : Option Value} {o_11 : Option Value} {o_12 : Option Value}  (K1 : ¬ ((x_4 >>> (x_5 &&& 31)) &&& 1) = 1 → ip sc call 145 MC MS Q 194 [some (.ref r_0), o_1, some (.int x_2), o_3, some (.int x_4), some (.int x_5), o_6, o_7, o_8, o_9, o_10, o_11, o_12] [] h z c s) (K2 : ¬ (¬ ((x_4 >>> (x_5 &&& 31)) &&& 1) = 1) → ip sc call 145 MC MS Q 188 [some (.ref r_0), o_1, some (.int x_2), o_3, some (.int x_4), some (.int x_5), o_6, o_7, o_8, o_9, o_10, o_11, o_12] [] h z c s) : ip sc call 145 MC MS Q 177 [some (.ref r_0), o_1, some (.int x_2), o_3, some (.int x_4), some (.int x_5), o_6, o_7, o_8, o_9, o_10, o_11, o_12] [] h z c s := by
  refine jp_load (pc2 := 179) (n := 4) rfl rfl rfl rfl ?_
  refine jp_load (pc2 := 181) (n := 5) rfl rfl rfl rfl ?_
  refine jp_bin (pc2 := 182) (v := x_4 >>> (x_5 &&& 31)) rfl rfl rfl ?_
  refine jp_con (pc2 := 183) (v := .int 1) rfl rfl rfl ?_
  refine jp_bin (pc2 := 184) (v := (x_4 >>> (x_5 &&& 31)) &&& 1) rfl rfl rfl ?_
  refine jp_con (pc2 := 185) (v := .int 1) rfl rfl rfl ?_
  exact jp_icmp (pc2 := 188) rfl rfl K1 K2
theorem b145_188 {r_0 : Nat} {o_1 : Option Value} {x_2 : Int32} {o_3 : Option Value} {x_4 : Int32} {x_5 : Int32} {o_6 : Option Value} {o_7 : Option Value} {o_8 : Option Value} {o_9 : Option Value} {o_10 : Option Value} {o_11 : Option Value} {o_12 : Option Value}  (K : ip sc call 145 MC MS Q 177 [some (.ref r_0), o_1, some (.int x_2), o_3, some (.int x_4), some (.int (x_5 + 1)), o_6, o_7, o_8, o_9, o_10, o_11, o_12] [] h z c s) : ip sc call 145 MC MS Q 188 [some (.ref r_0), o_1, some (.int x_2), o_3, some (.int x_4), some (.int x_5), o_6, o_7, o_8, o_9, o_10, o_11, o_12] [] h z c s := by
  refine jp_iinc (pc2 := 191) (n := 5) (v := x_5 + 1) rfl rfl rfl rfl rfl ?_
  refine ip_goto rfl ?_
  exact K
theorem b145_194 {r_0 : Nat} {o_1 : Option Value} {x_2 : Int32} {o_3 : Option Value} {o_4 : Option Value} {x_5 : Int32} {o_6 : Option Value} {o_7 : Option Value} {o_8 : Option Value} {o_9 : Option Value} {o_10 : Option Value} {o_11 : Option Value} {o_12 : Option Value} {fs1 : List Value} {P : ipQ} (e2 : h r_0 = some (.inr (9, fs1))) (m3 : c ≤ MC) (m4 : s ≤ MS) (hc : call 146 [(.ref r_0), (.int x_2), (.int x_5)] h z 0 0 P) (K : ∀ (o : Option Value) (h2 : HP) (z2 : Nat), P o h2 z2 → ip sc call 145 MC MS Q 201 [some (.ref r_0), o_1, some (.int x_2), o_3, o_4, some (.int x_5), o_6, o_7, o_8, o_9, o_10, o_11, o_12] (o.toList ++ []) h2 z2 c s) : ip sc call 145 MC MS Q 194 [some (.ref r_0), o_1, some (.int x_2), o_3, o_4, some (.int x_5), o_6, o_7, o_8, o_9, o_10, o_11, o_12] [] h z c s := by
  refine jp_load (pc2 := 195) (n := 0) rfl rfl rfl rfl ?_
  refine jp_load (pc2 := 196) (n := 2) rfl rfl rfl rfl ?_
  refine jp_load (pc2 := 198) (n := 5) rfl rfl rfl rfl ?_
  exact jp_virt0 (pc2 := 201) (As := [(.int x_2), (.int x_5)]) (rest := []) rfl rfl rfl (Nat.le_of_ble_eq_true rfl) e2 m3 m4 hc rfl K
theorem b145_201 {o_0 : Option Value} {o_1 : Option Value} {o_2 : Option Value} {o_3 : Option Value} {o_4 : Option Value} {x_5 : Int32} {o_6 : Option Value} {o_7 : Option Value} {o_8 : Option Value} {o_9 : Option Value} {o_10 : Option Value} {o_11 : Option Value} {o_12 : Option Value} (q1 : Q (some (.int x_5)) h z)  : ip sc call 145 MC MS Q 201 [o_0, o_1, o_2, o_3, o_4, some (.int x_5), o_6, o_7, o_8, o_9, o_10, o_11, o_12] [] h z c s := by
  refine jp_load (pc2 := 203) (n := 5) rfl rfl rfl rfl ?_
  exact ip_iret (st := []) rfl rfl rfl q1
theorem b146_0 {r_0 : Nat} {x_1 : Int32} {x_2 : Int32} {o_3 : Option Value} {o_4 : Option Value} {fs1 : List Value} {P : ipQ} (e2 : h r_0 = some (.inr (9, fs1))) (m3 : c ≤ MC) (m4 : s ≤ MS) (hc : call 140 [(.ref r_0), (.int x_1)] h z 0 0 P) (K : ∀ (o : Option Value) (h2 : HP) (z2 : Nat), P o h2 z2 → ip sc call 146 MC MS Q 5 [some (.ref r_0), some (.int x_1), some (.int x_2), o_3, o_4] (o.toList ++ []) h2 z2 c s) : ip sc call 146 MC MS Q 0 [some (.ref r_0), some (.int x_1), some (.int x_2), o_3, o_4] [] h z c s := by
  refine jp_load (pc2 := 1) (n := 0) rfl rfl rfl rfl ?_
  refine jp_load (pc2 := 2) (n := 1) rfl rfl rfl rfl ?_
  exact jp_virt0 (pc2 := 5) (As := [(.int x_1)]) (rest := []) rfl rfl rfl (Nat.le_of_ble_eq_true rfl) e2 m3 m4 hc rfl K
theorem b146_5 {r_0 : Nat} {o_1 : Option Value} {x_2 : Int32} {o_3 : Option Value} {o_4 : Option Value} {fs1 : List Value} {P : ipQ} (e2 : h r_0 = some (.inr (9, fs1))) (m3 : c ≤ MC) (m4 : s ≤ MS) (hc : call 142 [(.ref r_0)] h z 0 0 P) (K : ∀ (o : Option Value) (h2 : HP) (z2 : Nat), P o h2 z2 → ip sc call 146 MC MS Q 9 [some (.ref r_0), o_1, some (.int x_2), o_3, o_4] (o.toList ++ []) h2 z2 c s) : ip sc call 146 MC MS Q 5 [some (.ref r_0), o_1, some (.int x_2), o_3, o_4] [] h z c s := by
  refine jp_load (pc2 := 6) (n := 0) rfl rfl rfl rfl ?_
  exact jp_virt0 (pc2 := 9) (As := []) (rest := []) rfl rfl rfl (Nat.le_of_ble_eq_true rfl) e2 m3 m4 hc rfl K
theorem b146_9 {r_0 : Nat} {o_1 : Option Value} {x_2 : Int32} {o_3 : Option Value} {o_4 : Option Value} {sx_0 : Int32}  (K1 : sx_0 < 0 → ip sc call 146 MC MS Q 33 [some (.ref r_0), o_1, some (.int x_2), some (.int sx_0), o_4] [] h z c s) (K2 : ¬ (sx_0 < 0) → ip sc call 146 MC MS Q 14 [some (.ref r_0), o_1, some (.int x_2), some (.int sx_0), o_4] [] h z c s) : ip sc call 146 MC MS Q 9 [some (.ref r_0), o_1, some (.int x_2), o_3, o_4] [(.int sx_0)] h z c s := by
  refine jp_store (pc2 := 10) (n := 3) rfl rfl ⟨rfl, rfl⟩ rfl (Nat.le_of_ble_eq_true rfl) ?_
  refine jp_load (pc2 := 11) (n := 3) rfl rfl rfl rfl ?_
  exact jp_if0 (pc2 := 14) rfl rfl K1 K2
theorem b146_14 {r_0 : Nat} {o_1 : Option Value} {x_2 : Int32} {x_3 : Int32} {o_4 : Option Value} {fs1 : List Value} {q_fs1_3 : Nat} {n4 : Nat} {f5 : Nat → Int32} (e2 : h r_0 = some (.inr (9, fs1))) (e3 : fs1[3]? = some (.ref q_fs1_3)) (e6 : h q_fs1_3 = some (.inl (0, n4, .inl f5))) (b7 : vp_in x_3 n4) (K1 : (0 : Int32) < (f5 x_3.toNatClampNeg) → ip sc call 146 MC MS Q 33 [some (.ref r_0), o_1, some (.int x_2), some (.int x_3), o_4] [] h z c s) (K2 : ¬ ((0 : Int32) < (f5 x_3.toNatClampNeg)) → ip sc call 146 MC MS Q 23 [some (.ref r_0), o_1, some (.int x_2), some (.int x_3), o_4] [] h z c s) : ip sc call 146 MC MS Q 14 [some (.ref r_0), o_1, some (.int x_2), some (.int x_3), o_4] [] h z c s := by
  refine jp_load (pc2 := 15) (n := 0) rfl rfl rfl rfl ?_
  refine jp_getf (pc2 := 18) rfl rfl e2 e3 ?_
  refine jp_load (pc2 := 19) (n := 3) rfl rfl rfl rfl ?_
  refine jp_iald (pc2 := 20) rfl rfl e6 b7 ?_
  exact jp_if0 (pc2 := 23) rfl rfl K1 K2
theorem b146_23 {r_0 : Nat} {o_1 : Option Value} {x_2 : Int32} {x_3 : Int32} {o_4 : Option Value} {fs1 : List Value} {v_fs1_5 : Int32} (e2 : h r_0 = some (.inr (9, fs1))) (e3 : fs1[5]? = some (.int v_fs1_5)) (K1 : v_fs1_5 ≤ 30000 → ip sc call 146 MC MS Q 34 [some (.ref r_0), o_1, some (.int x_2), some (.int x_3), o_4] [] h z c s) (K2 : ¬ (v_fs1_5 ≤ 30000) → ip sc call 146 MC MS Q 33 [some (.ref r_0), o_1, some (.int x_2), some (.int x_3), o_4] [] h z c s) : ip sc call 146 MC MS Q 23 [some (.ref r_0), o_1, some (.int x_2), some (.int x_3), o_4] [] h z c s := by
  refine jp_load (pc2 := 24) (n := 0) rfl rfl rfl rfl ?_
  refine jp_getf (pc2 := 27) rfl rfl e2 e3 ?_
  refine jp_con (pc2 := 30) (v := .int 30000) rfl rfl rfl ?_
  exact jp_icmp (pc2 := 33) rfl rfl K1 K2
theorem b146_33 {o_0 : Option Value} {o_1 : Option Value} {o_2 : Option Value} {o_3 : Option Value} {o_4 : Option Value} (q1 : Q none h z)  : ip sc call 146 MC MS Q 33 [o_0, o_1, o_2, o_3, o_4] [] h z c s := by
  exact ip_vret (st := []) rfl rfl q1
theorem b146_34 {r_0 : Nat} {o_1 : Option Value} {x_2 : Int32} {x_3 : Int32} {o_4 : Option Value} {fs1 : List Value} {q_fs1_3 : Nat} {v_fs1_15 : Int32} {n5 : Nat} {f6 : Nat → Int32} {q_fs1_4 : Nat} {n11 : Nat} {f12 : Nat → Int32} (e2 : h r_0 = some (.inr (9, fs1))) (e3 : fs1[3]? = some (.ref q_fs1_3)) (e4 : fs1[15]? = some (.int v_fs1_15)) (e7 : h q_fs1_3 = some (.inl (0, n5, .inl f6))) (b8 : vp_in x_3 n5) (n9 : r_0 ≠ q_fs1_3) (e10 : fs1[4]? = some (.ref q_fs1_4)) (e13 : h q_fs1_4 = some (.inl (2, n11, .inl f12))) (n14 : q_fs1_4 ≠ q_fs1_3) (b15 : vp_in x_3 n11) (K : ip sc call 146 MC MS Q 55 [some (.ref r_0), o_1, some (.int x_2), some (.int x_3), some (.int 0)] [] (hup (hup h q_fs1_3 (.inl (0, n5, .inl (upd f6 x_3.toNatClampNeg v_fs1_15)))) q_fs1_4 (.inl (2, n11, .inl (upd f12 x_3.toNatClampNeg (vp_nar .byte x_2.toInt8.toInt32))))) z c s) : ip sc call 146 MC MS Q 34 [some (.ref r_0), o_1, some (.int x_2), some (.int x_3), o_4] [] h z c s := by
  refine jp_load (pc2 := 35) (n := 0) rfl rfl rfl rfl ?_
  refine jp_getf (pc2 := 38) rfl rfl e2 e3 ?_
  refine jp_load (pc2 := 39) (n := 3) rfl rfl rfl rfl ?_
  refine jp_load (pc2 := 40) (n := 0) rfl rfl rfl rfl ?_
  refine jp_getf (pc2 := 43) rfl rfl e2 e4 ?_
  refine jp_iast (pc2 := 44) rfl rfl e7 b8 ?_
  refine jp_load (pc2 := 45) (n := 0) rfl rfl rfl rfl ?_
  refine jp_getf (pc2 := 48) rfl rfl (hup_ne n9 e2) e10 ?_
  refine jp_load (pc2 := 49) (n := 3) rfl rfl rfl rfl ?_
  refine jp_load (pc2 := 50) (n := 2) rfl rfl rfl rfl ?_
  refine jp_cv (pc2 := 51) (v := (.int x_2.toInt8.toInt32)) rfl rfl rfl ?_
  refine jp_bast (pc2 := 52) rfl rfl (hup_ne n14 e13) b15 ?_
  refine jp_con (pc2 := 53) (v := .int 0) rfl rfl rfl ?_
  refine jp_store (pc2 := 55) (n := 4) rfl rfl ⟨rfl, rfl⟩ rfl (Nat.le_of_ble_eq_true rfl) ?_
  exact K
theorem b146_55 {r_0 : Nat} {o_1 : Option Value} {o_2 : Option Value} {x_3 : Int32} {x_4 : Int32} {fs1 : List Value} {v_fs1_15 : Int32} (e2 : h r_0 = some (.inr (9, fs1))) (e3 : fs1[15]? = some (.int v_fs1_15)) (K1 : v_fs1_15 ≤ x_4 → ip sc call 146 MC MS Q 89 [some (.ref r_0), o_1, o_2, some (.int x_3), some (.int x_4)] [] h z c s) (K2 : ¬ (v_fs1_15 ≤ x_4) → ip sc call 146 MC MS Q 64 [some (.ref r_0), o_1, o_2, some (.int x_3), some (.int x_4)] [] h z c s) : ip sc call 146 MC MS Q 55 [some (.ref r_0), o_1, o_2, some (.int x_3), some (.int x_4)] [] h z c s := by
  refine jp_load (pc2 := 57) (n := 4) rfl rfl rfl rfl ?_
  refine jp_load (pc2 := 58) (n := 0) rfl rfl rfl rfl ?_
  refine jp_getf (pc2 := 61) rfl rfl e2 e3 ?_
  exact jp_icmp (pc2 := 64) rfl rfl K1 K2
theorem b146_64 {r_0 : Nat} {o_1 : Option Value} {o_2 : Option Value} {x_3 : Int32} {x_4 : Int32} {fs1 : List Value} {q_fs1_2 : Nat} {q_fs1_14 : Nat} {n5 : Nat} {f6 : Nat → Int32} {n9 : Nat} {f10 : Nat → Int32} (e2 : h r_0 = some (.inr (9, fs1))) (e3 : fs1[2]? = some (.ref q_fs1_2)) (e4 : fs1[14]? = some (.ref q_fs1_14)) (e7 : h q_fs1_14 = some (.inl (2, n5, .inl f6))) (b8 : vp_in x_4 n5) (e11 : h q_fs1_2 = some (.inl (2, n9, .inl f10))) (b12 : vp_in ((72 * x_3) + x_4) n9) (K : ip sc call 146 MC MS Q 55 [some (.ref r_0), o_1, o_2, some (.int x_3), some (.int (x_4 + 1))] [] (hup h q_fs1_2 (.inl (2, n9, .inl (upd f10 ((72 * x_3) + x_4).toNatClampNeg (vp_nar .byte (f6 x_4.toNatClampNeg)))))) z c s) : ip sc call 146 MC MS Q 64 [some (.ref r_0), o_1, o_2, some (.int x_3), some (.int x_4)] [] h z c s := by
  refine jp_load (pc2 := 65) (n := 0) rfl rfl rfl rfl ?_
  refine jp_getf (pc2 := 68) rfl rfl e2 e3 ?_
  refine jp_con (pc2 := 70) (v := .int 72) rfl rfl rfl ?_
  refine jp_load (pc2 := 71) (n := 3) rfl rfl rfl rfl ?_
  refine jp_bin (pc2 := 72) (v := 72 * x_3) rfl rfl rfl ?_
  refine jp_load (pc2 := 74) (n := 4) rfl rfl rfl rfl ?_
  refine jp_bin (pc2 := 75) (v := (72 * x_3) + x_4) rfl rfl rfl ?_
  refine jp_load (pc2 := 76) (n := 0) rfl rfl rfl rfl ?_
  refine jp_getf (pc2 := 79) rfl rfl e2 e4 ?_
  refine jp_load (pc2 := 81) (n := 4) rfl rfl rfl rfl ?_
  refine jp_bald (pc2 := 82) rfl rfl e7 (by decide) b8 ?_
  refine jp_bast (pc2 := 83) rfl rfl e11 b12 ?_
  refine jp_iinc (pc2 := 86) (n := 4) (v := x_4 + 1) rfl rfl rfl rfl rfl ?_
  refine ip_goto rfl ?_
  exact K
theorem b146_89 {r_0 : Nat} {o_1 : Option Value} {o_2 : Option Value} {o_3 : Option Value} {o_4 : Option Value} {fs1 : List Value} {v_fs1_5 : Int32} (e2 : h r_0 = some (.inr (9, fs1))) (e3 : fs1[5]? = some (.int v_fs1_5)) (l4 : fs1.length = 16) (q5 : Q none (hup h r_0 (.inr (9, (fs1.set 5 (.int (v_fs1_5 + 1)))))) z)  : ip sc call 146 MC MS Q 89 [some (.ref r_0), o_1, o_2, o_3, o_4] [] h z c s := by
  refine jp_load (pc2 := 90) (n := 0) rfl rfl rfl rfl ?_
  refine jp_dup (pc2 := 91) rfl rfl rfl ?_
  refine jp_getf (pc2 := 94) rfl rfl e2 e3 ?_
  refine jp_con (pc2 := 95) (v := .int 1) rfl rfl rfl ?_
  refine jp_bin (pc2 := 96) (v := v_fs1_5 + 1) rfl rfl rfl ?_
  refine jp_putf (pc2 := 99) rfl rfl e2 (ln_lt l4 (by decide)) ⟨rfl, rfl⟩ ?_
  exact ip_vret (st := []) rfl rfl q5
theorem b147_0 {r_0 : Nat} {fs1 : List Value} {P : ipQ} (e2 : h r_0 = some (.inr (9, fs1))) (m3 : c ≤ MC) (m4 : s ≤ MS) (hc : call 94 [(.ref r_0)] h z 0 0 P) (K : ∀ (o : Option Value) (h2 : HP) (z2 : Nat), P o h2 z2 → ip sc call 147 MC MS Q 5 [some (.ref r_0)] (o.toList ++ [(.ref r_0)]) h2 z2 c s) : ip sc call 147 MC MS Q 0 [some (.ref r_0)] [] h z c s := by
  refine jp_load (pc2 := 1) (n := 0) rfl rfl rfl rfl ?_
  refine jp_load (pc2 := 2) (n := 0) rfl rfl rfl rfl ?_
  exact jp_virt0 (pc2 := 5) (As := []) (rest := [(.ref r_0)]) rfl rfl rfl (Nat.le_of_ble_eq_true rfl) e2 m3 m4 hc rfl K
theorem b147_5 {r_0 : Nat} {sr_0 : Nat} {sx_1 : Int32} {fs1 : List Value} {P : ipQ} (e2 : h sr_0 = some (.inr (9, fs1))) (m3 : c ≤ MC) (m4 : s ≤ MS) (hc : call 118 [(.ref sr_0), (.int sx_1)] h z 0 0 P) (K : ∀ (o : Option Value) (h2 : HP) (z2 : Nat), P o h2 z2 → ip sc call 147 MC MS Q 8 [some (.ref r_0)] (o.toList ++ []) h2 z2 c s) : ip sc call 147 MC MS Q 5 [some (.ref r_0)] [(.int sx_1), (.ref sr_0)] h z c s := by
  exact jp_virt0 (pc2 := 8) (As := [(.int sx_1)]) (rest := []) rfl rfl rfl (Nat.le_of_ble_eq_true rfl) e2 m3 m4 hc rfl K
theorem b147_8 {r_0 : Nat} {sx_0 : Int32}  (K1 : sx_0 ≤ 9 → ip sc call 147 MC MS Q 17 [some (.ref r_0)] [] h z c s) (K2 : ¬ (sx_0 ≤ 9) → ip sc call 147 MC MS Q 13 [some (.ref r_0)] [] h z c s) : ip sc call 147 MC MS Q 8 [some (.ref r_0)] [(.int sx_0)] h z c s := by
  refine jp_con (pc2 := 10) (v := .int 9) rfl rfl rfl ?_
  exact jp_icmp (pc2 := 13) rfl rfl K1 K2
theorem b147_13 {o_0 : Option Value}  (K : ip sc call 147 MC MS Q 26 [o_0] [(.int ((-1)))] h z c s) : ip sc call 147 MC MS Q 13 [o_0] [] h z c s := by
  refine jp_con (pc2 := 14) (v := .int (-1)) rfl rfl rfl ?_
  refine ip_goto rfl ?_
  exact K
theorem b147_17 {r_0 : Nat} {fs1 : List Value} {P : ipQ} (e2 : h r_0 = some (.inr (9, fs1))) (m3 : c ≤ MC) (m4 : s ≤ MS) (hc : call 94 [(.ref r_0)] h z 0 0 P) (K : ∀ (o : Option Value) (h2 : HP) (z2 : Nat), P o h2 z2 → ip sc call 147 MC MS Q 22 [some (.ref r_0)] (o.toList ++ [(.ref r_0)]) h2 z2 c s) : ip sc call 147 MC MS Q 17 [some (.ref r_0)] [] h z c s := by
  refine jp_load (pc2 := 18) (n := 0) rfl rfl rfl rfl ?_
  refine jp_load (pc2 := 19) (n := 0) rfl rfl rfl rfl ?_
  exact jp_virt0 (pc2 := 22) (As := []) (rest := [(.ref r_0)]) rfl rfl rfl (Nat.le_of_ble_eq_true rfl) e2 m3 m4 hc rfl K
theorem b147_22 {o_0 : Option Value} {sr_0 : Nat} {sx_1 : Int32} {fs1 : List Value} {P : ipQ} (e2 : h sr_0 = some (.inr (9, fs1))) (m3 : c ≤ MC) (m4 : s ≤ MS) (hc : call 144 [(.ref sr_0), (.int sx_1), (.int 0)] h z 0 0 P) (K : ∀ (o : Option Value) (h2 : HP) (z2 : Nat), P o h2 z2 → ip sc call 147 MC MS Q 26 [o_0] (o.toList ++ []) h2 z2 c s) : ip sc call 147 MC MS Q 22 [o_0] [(.int sx_1), (.ref sr_0)] h z c s := by
  refine jp_con (pc2 := 23) (v := .int 0) rfl rfl rfl ?_
  exact jp_virt0 (pc2 := 26) (As := [(.int sx_1), (.int 0)]) (rest := []) rfl rfl rfl (Nat.le_of_ble_eq_true rfl) e2 m3 m4 hc rfl K
theorem b147_26 {o_0 : Option Value} {sx_0 : Int32} (q1 : Q (some (.int sx_0)) h z)  : ip sc call 147 MC MS Q 26 [o_0] [(.int sx_0)] h z c s := by
  exact ip_iret (st := []) rfl rfl rfl q1
theorem b148_0 {r_0 : Nat} {o_1 : Option Value} {o_2 : Option Value} {o_3 : Option Value} {o_4 : Option Value} {o_5 : Option Value} {o_6 : Option Value} {o_7 : Option Value} {o_8 : Option Value} {o_9 : Option Value} {fs1 : List Value} {P : ipQ} (e2 : h r_0 = some (.inr (9, fs1))) (m3 : c ≤ MC) (m4 : s ≤ MS) (hc : call 94 [(.ref r_0)] h z 0 0 P) (K : ∀ (o : Option Value) (h2 : HP) (z2 : Nat), P o h2 z2 → ip sc call 148 MC MS Q 4 [some (.ref r_0), o_1, o_2, o_3, o_4, o_5, o_6, o_7, o_8, o_9] (o.toList ++ []) h2 z2 c s) : ip sc call 148 MC MS Q 0 [some (.ref r_0), o_1, o_2, o_3, o_4, o_5, o_6, o_7, o_8, o_9] [] h z c s := by
  refine jp_load (pc2 := 1) (n := 0) rfl rfl rfl rfl ?_
  exact jp_virt0 (pc2 := 4) (As := []) (rest := []) rfl rfl rfl (Nat.le_of_ble_eq_true rfl) e2 m3 m4 hc rfl K
theorem b148_4 {r_0 : Nat} {o_1 : Option Value} {o_2 : Option Value} {o_3 : Option Value} {o_4 : Option Value} {o_5 : Option Value} {o_6 : Option Value} {o_7 : Option Value} {o_8 : Option Value} {o_9 : Option Value} {sx_0 : Int32} {fs1 : List Value} {P : ipQ} (e2 : h r_0 = some (.inr (9, fs1))) (m3 : c ≤ MC) (m4 : s ≤ MS) (hc : call 118 [(.ref r_0), (.int sx_0)] h z 0 0 P) (K : ∀ (o : Option Value) (h2 : HP) (z2 : Nat), P o h2 z2 → ip sc call 148 MC MS Q 10 [some (.ref r_0), some (.int sx_0), o_2, o_3, o_4, o_5, o_6, o_7, o_8, o_9] (o.toList ++ []) h2 z2 c s) : ip sc call 148 MC MS Q 4 [some (.ref r_0), o_1, o_2, o_3, o_4, o_5, o_6, o_7, o_8, o_9] [(.int sx_0)] h z c s := by
  refine jp_store (pc2 := 5) (n := 1) rfl rfl ⟨rfl, rfl⟩ rfl (Nat.le_of_ble_eq_true rfl) ?_
  refine jp_load (pc2 := 6) (n := 0) rfl rfl rfl rfl ?_
  refine jp_load (pc2 := 7) (n := 1) rfl rfl rfl rfl ?_
  exact jp_virt0 (pc2 := 10) (As := [(.int sx_0)]) (rest := []) rfl rfl rfl (Nat.le_of_ble_eq_true rfl) e2 m3 m4 hc rfl K
theorem b148_10 {r_0 : Nat} {x_1 : Int32} {o_2 : Option Value} {o_3 : Option Value} {o_4 : Option Value} {o_5 : Option Value} {o_6 : Option Value} {o_7 : Option Value} {o_8 : Option Value} {o_9 : Option Value} {sx_0 : Int32}  (K1 : sx_0 ≤ 9 → ip sc call 148 MC MS Q 17 [some (.ref r_0), some (.int x_1), o_2, o_3, o_4, o_5, o_6, o_7, o_8, o_9] [] h z c s) (K2 : ¬ (sx_0 ≤ 9) → ip sc call 148 MC MS Q 15 [some (.ref r_0), some (.int x_1), o_2, o_3, o_4, o_5, o_6, o_7, o_8, o_9] [] h z c s) : ip sc call 148 MC MS Q 10 [some (.ref r_0), some (.int x_1), o_2, o_3, o_4, o_5, o_6, o_7, o_8, o_9] [(.int sx_0)] h z c s := by
  refine jp_con (pc2 := 12) (v := .int 9) rfl rfl rfl ?_
  exact jp_icmp (pc2 := 15) rfl rfl K1 K2
theorem b148_15 {o_0 : Option Value} {o_1 : Option Value} {o_2 : Option Value} {o_3 : Option Value} {o_4 : Option Value} {o_5 : Option Value} {o_6 : Option Value} {o_7 : Option Value} {o_8 : Option Value} {o_9 : Option Value} (q1 : Q (some (.int ((-1)))) h z)  : ip sc call 148 MC MS Q 15 [o_0, o_1, o_2, o_3, o_4, o_5, o_6, o_7, o_8, o_9] [] h z c s := by
  refine jp_con (pc2 := 16) (v := .int (-1)) rfl rfl rfl ?_
  exact ip_iret (st := []) rfl rfl rfl q1
theorem b148_17 {r_0 : Nat} {x_1 : Int32} {o_2 : Option Value} {o_3 : Option Value} {o_4 : Option Value} {o_5 : Option Value} {o_6 : Option Value} {o_7 : Option Value} {o_8 : Option Value} {o_9 : Option Value} {fs1 : List Value} {P : ipQ} (e2 : h r_0 = some (.inr (9, fs1))) (m3 : c ≤ MC) (m4 : s ≤ MS) (hc : call 112 [(.ref r_0)] h z 0 0 P) (K : ∀ (o : Option Value) (h2 : HP) (z2 : Nat), P o h2 z2 → ip sc call 148 MC MS Q 23 [some (.ref r_0), some (.int x_1), some (.int 0), o_3, o_4, o_5, o_6, o_7, o_8, o_9] (o.toList ++ []) h2 z2 c s) : ip sc call 148 MC MS Q 17 [some (.ref r_0), some (.int x_1), o_2, o_3, o_4, o_5, o_6, o_7, o_8, o_9] [] h z c s := by
  refine jp_con (pc2 := 18) (v := .int 0) rfl rfl rfl ?_
  refine jp_store (pc2 := 19) (n := 2) rfl rfl ⟨rfl, rfl⟩ rfl (Nat.le_of_ble_eq_true rfl) ?_
  refine jp_load (pc2 := 20) (n := 0) rfl rfl rfl rfl ?_
  exact jp_virt0 (pc2 := 23) (As := []) (rest := []) rfl rfl rfl (Nat.le_of_ble_eq_true rfl) e2 m3 m4 hc rfl K
theorem b148_23 {r_0 : Nat} {x_1 : Int32} {x_2 : Int32} {o_3 : Option Value} {o_4 : Option Value} {o_5 : Option Value} {o_6 : Option Value} {o_7 : Option Value} {o_8 : Option Value} {o_9 : Option Value} {fs1 : List Value} {P : ipQ} (e2 : h r_0 = some (.inr (9, fs1))) (m3 : c ≤ MC) (m4 : s ≤ MS) (hc : call 114 [(.ref r_0), (.int x_1)] h z 0 0 P) (K : ∀ (o : Option Value) (h2 : HP) (z2 : Nat), P o h2 z2 → ip sc call 148 MC MS Q 28 [some (.ref r_0), some (.int x_1), some (.int x_2), o_3, o_4, o_5, o_6, o_7, o_8, o_9] (o.toList ++ []) h2 z2 c s) : ip sc call 148 MC MS Q 23 [some (.ref r_0), some (.int x_1), some (.int x_2), o_3, o_4, o_5, o_6, o_7, o_8, o_9] [] h z c s := by
  refine jp_load (pc2 := 24) (n := 0) rfl rfl rfl rfl ?_
  refine jp_load (pc2 := 25) (n := 1) rfl rfl rfl rfl ?_
  exact jp_virt0 (pc2 := 28) (As := [(.int x_1)]) (rest := []) rfl rfl rfl (Nat.le_of_ble_eq_true rfl) e2 m3 m4 hc rfl K
theorem b148_28 {r_0 : Nat} {x_1 : Int32} {x_2 : Int32} {o_3 : Option Value} {o_4 : Option Value} {o_5 : Option Value} {o_6 : Option Value} {o_7 : Option Value} {o_8 : Option Value} {o_9 : Option Value} {sx_0 : Int32}  (K1 : sx_0 = 0 → ip sc call 148 MC MS Q 143 [some (.ref r_0), some (.int x_1), some (.int x_2), o_3, o_4, o_5, o_6, o_7, o_8, o_9] [] h z c s) (K2 : ¬ (sx_0 = 0) → ip sc call 148 MC MS Q 31 [some (.ref r_0), some (.int x_1), some (.int x_2), o_3, o_4, o_5, o_6, o_7, o_8, o_9] [] h z c s) : ip sc call 148 MC MS Q 28 [some (.ref r_0), some (.int x_1), some (.int x_2), o_3, o_4, o_5, o_6, o_7, o_8, o_9] [(.int sx_0)] h z c s := by
  exact jp_if0 (pc2 := 31) rfl rfl K1 K2
theorem b148_31 {r_0 : Nat} {x_1 : Int32} {x_2 : Int32} {o_3 : Option Value} {o_4 : Option Value} {o_5 : Option Value} {o_6 : Option Value} {o_7 : Option Value} {o_8 : Option Value} {o_9 : Option Value} {fs1 : List Value} {v_fs1_6 : Int32} {v_fs1_7 : Int32} {v_fs1_8 : Int32} {v_fs1_9 : Int32} {v_fs1_10 : Int32} {v_fs1_11 : Int32} {P : ipQ} (e2 : h r_0 = some (.inr (9, fs1))) (e3 : fs1[6]? = some (.int v_fs1_6)) (e4 : fs1[7]? = some (.int v_fs1_7)) (e5 : fs1[8]? = some (.int v_fs1_8)) (e6 : fs1[9]? = some (.int v_fs1_9)) (e7 : fs1[10]? = some (.int v_fs1_10)) (e8 : fs1[11]? = some (.int v_fs1_11)) (m9 : c ≤ MC) (m10 : s ≤ MS) (hc : call 143 [(.int 0)] h z 0 0 P) (K : ∀ (o : Option Value) (h2 : HP) (z2 : Nat), P o h2 z2 → ip sc call 148 MC MS Q 72 [some (.ref r_0), some (.int x_1), some (.int x_2), some (.int v_fs1_6), some (.int v_fs1_7), some (.int v_fs1_8), some (.int v_fs1_9), some (.int v_fs1_10), some (.int v_fs1_11), o_9] (o.toList ++ [(.int x_1), (.ref r_0)]) h2 z2 c s) : ip sc call 148 MC MS Q 31 [some (.ref r_0), some (.int x_1), some (.int x_2), o_3, o_4, o_5, o_6, o_7, o_8, o_9] [] h z c s := by
  refine jp_load (pc2 := 32) (n := 0) rfl rfl rfl rfl ?_
  refine jp_getf (pc2 := 35) rfl rfl e2 e3 ?_
  refine jp_store (pc2 := 36) (n := 3) rfl rfl ⟨rfl, rfl⟩ rfl (Nat.le_of_ble_eq_true rfl) ?_
  refine jp_load (pc2 := 37) (n := 0) rfl rfl rfl rfl ?_
  refine jp_getf (pc2 := 40) rfl rfl e2 e4 ?_
  refine jp_store (pc2 := 42) (n := 4) rfl rfl ⟨rfl, rfl⟩ rfl (Nat.le_of_ble_eq_true rfl) ?_
  refine jp_load (pc2 := 43) (n := 0) rfl rfl rfl rfl ?_
  refine jp_getf (pc2 := 46) rfl rfl e2 e5 ?_
  refine jp_store (pc2 := 48) (n := 5) rfl rfl ⟨rfl, rfl⟩ rfl (Nat.le_of_ble_eq_true rfl) ?_
  refine jp_load (pc2 := 49) (n := 0) rfl rfl rfl rfl ?_
  refine jp_getf (pc2 := 52) rfl rfl e2 e6 ?_
  refine jp_store (pc2 := 54) (n := 6) rfl rfl ⟨rfl, rfl⟩ rfl (Nat.le_of_ble_eq_true rfl) ?_
  refine jp_load (pc2 := 55) (n := 0) rfl rfl rfl rfl ?_
  refine jp_getf (pc2 := 58) rfl rfl e2 e7 ?_
  refine jp_store (pc2 := 60) (n := 7) rfl rfl ⟨rfl, rfl⟩ rfl (Nat.le_of_ble_eq_true rfl) ?_
  refine jp_load (pc2 := 61) (n := 0) rfl rfl rfl rfl ?_
  refine jp_getf (pc2 := 64) rfl rfl e2 e8 ?_
  refine jp_store (pc2 := 66) (n := 8) rfl rfl ⟨rfl, rfl⟩ rfl (Nat.le_of_ble_eq_true rfl) ?_
  refine jp_load (pc2 := 67) (n := 0) rfl rfl rfl rfl ?_
  refine jp_load (pc2 := 68) (n := 1) rfl rfl rfl rfl ?_
  refine jp_con (pc2 := 69) (v := .int 0) rfl rfl rfl ?_
  exact jp_stat0 (pc2 := 72) (As := [(.int 0)]) (rest := [(.int x_1), (.ref r_0)]) rfl rfl rfl (Nat.le_of_ble_eq_true rfl) m9 m10 (by decide) hc rfl K
theorem b148_72 {r_0 : Nat} {x_1 : Int32} {x_2 : Int32} {x_3 : Int32} {x_4 : Int32} {x_5 : Int32} {x_6 : Int32} {x_7 : Int32} {x_8 : Int32} {o_9 : Option Value} {sr_0 : Nat} {sx_1 : Int32} {sx_2 : Int32} {fs1 : List Value} {P : ipQ} (e2 : h sr_0 = some (.inr (9, fs1))) (m3 : c ≤ MC) (m4 : s ≤ MS) (hc : call 108 [(.ref sr_0), (.int sx_1), (.int sx_2), (.int x_3), (.int x_4), (.int x_5), (.int x_6), (.int x_7), (.int x_8)] h z 0 0 P) (K : ∀ (o : Option Value) (h2 : HP) (z2 : Nat), P o h2 z2 → ip sc call 148 MC MS Q 86 [some (.ref r_0), some (.int x_1), some (.int x_2), some (.int x_3), some (.int x_4), some (.int x_5), some (.int x_6), some (.int x_7), some (.int x_8), o_9] (o.toList ++ []) h2 z2 c s) : ip sc call 148 MC MS Q 72 [some (.ref r_0), some (.int x_1), some (.int x_2), some (.int x_3), some (.int x_4), some (.int x_5), some (.int x_6), some (.int x_7), some (.int x_8), o_9] [(.int sx_2), (.int sx_1), (.ref sr_0)] h z c s := by
  refine jp_load (pc2 := 73) (n := 3) rfl rfl rfl rfl ?_
  refine jp_load (pc2 := 75) (n := 4) rfl rfl rfl rfl ?_
  refine jp_load (pc2 := 77) (n := 5) rfl rfl rfl rfl ?_
  refine jp_load (pc2 := 79) (n := 6) rfl rfl rfl rfl ?_
  refine jp_load (pc2 := 81) (n := 7) rfl rfl rfl rfl ?_
  refine jp_load (pc2 := 83) (n := 8) rfl rfl rfl rfl ?_
  exact jp_virt0 (pc2 := 86) (As := [(.int sx_1), (.int sx_2), (.int x_3), (.int x_4), (.int x_5), (.int x_6), (.int x_7), (.int x_8)]) (rest := []) rfl rfl rfl (Nat.le_of_ble_eq_true rfl) e2 m3 m4 hc rfl K
theorem b148_86 {r_0 : Nat} {x_1 : Int32} {x_2 : Int32} {x_3 : Int32} {x_4 : Int32} {x_5 : Int32} {x_6 : Int32} {x_7 : Int32} {x_8 : Int32} {o_9 : Option Value} {sx_0 : Int32} {P : ipQ} (m1 : c ≤ MC) (m2 : s ≤ MS) (hc : call 143 [(.int 0)] h z 0 0 P) (K : ∀ (o : Option Value) (h2 : HP) (z2 : Nat), P o h2 z2 → ip sc call 148 MC MS Q 93 [some (.ref r_0), some (.int x_1), some (.int x_2), some (.int x_3), some (.int x_4), some (.int x_5), some (.int x_6), some (.int x_7), some (.int x_8), some (.int sx_0)] (o.toList ++ [(.ref r_0)]) h2 z2 c s) : ip sc call 148 MC MS Q 86 [some (.ref r_0), some (.int x_1), some (.int x_2), some (.int x_3), some (.int x_4), some (.int x_5), some (.int x_6), some (.int x_7), some (.int x_8), o_9] [(.int sx_0)] h z c s := by
  refine jp_store (pc2 := 88) (n := 9) rfl rfl ⟨rfl, rfl⟩ rfl (Nat.le_of_ble_eq_true rfl) ?_
  refine jp_load (pc2 := 89) (n := 0) rfl rfl rfl rfl ?_
  refine jp_con (pc2 := 90) (v := .int 0) rfl rfl rfl ?_
  exact jp_stat0 (pc2 := 93) (As := [(.int 0)]) (rest := [(.ref r_0)]) rfl rfl rfl (Nat.le_of_ble_eq_true rfl) m1 m2 (by decide) hc rfl K
theorem b148_93 {r_0 : Nat} {x_1 : Int32} {x_2 : Int32} {x_3 : Int32} {x_4 : Int32} {x_5 : Int32} {x_6 : Int32} {x_7 : Int32} {x_8 : Int32} {o_9 : Option Value} {sr_0 : Nat} {sx_1 : Int32} {fs1 : List Value} {P : ipQ} (e2 : h sr_0 = some (.inr (9, fs1))) (m3 : c ≤ MC) (m4 : s ≤ MS) (hc : call 144 [(.ref sr_0), (.int sx_1), (.int 1)] h z 0 0 P) (K : ∀ (o : Option Value) (h2 : HP) (z2 : Nat), P o h2 z2 → ip sc call 148 MC MS Q 97 [some (.ref r_0), some (.int x_1), some (.int x_2), some (.int x_3), some (.int x_4), some (.int x_5), some (.int x_6), some (.int x_7), some (.int x_8), o_9] (o.toList ++ []) h2 z2 c s) : ip sc call 148 MC MS Q 93 [some (.ref r_0), some (.int x_1), some (.int x_2), some (.int x_3), some (.int x_4), some (.int x_5), some (.int x_6), some (.int x_7), some (.int x_8), o_9] [(.int sx_1), (.ref sr_0)] h z c s := by
  refine jp_con (pc2 := 94) (v := .int 1) rfl rfl rfl ?_
  exact jp_virt0 (pc2 := 97) (As := [(.int sx_1), (.int 1)]) (rest := []) rfl rfl rfl (Nat.le_of_ble_eq_true rfl) e2 m3 m4 hc rfl K
theorem b148_97 {r_0 : Nat} {x_1 : Int32} {x_2 : Int32} {x_3 : Int32} {x_4 : Int32} {x_5 : Int32} {x_6 : Int32} {x_7 : Int32} {x_8 : Int32} {o_9 : Option Value} {sx_0 : Int32}  (K1 : ¬ sx_0 = 0 → ip sc call 148 MC MS Q 102 [some (.ref r_0), some (.int x_1), some (.int x_2), some (.int x_3), some (.int x_4), some (.int x_5), some (.int x_6), some (.int x_7), some (.int x_8), o_9] [] h z c s) (K2 : ¬ (¬ sx_0 = 0) → ip sc call 148 MC MS Q 100 [some (.ref r_0), some (.int x_1), some (.int x_2), some (.int x_3), some (.int x_4), some (.int x_5), some (.int x_6), some (.int x_7), some (.int x_8), o_9] [] h z c s) : ip sc call 148 MC MS Q 97 [some (.ref r_0), some (.int x_1), some (.int x_2), some (.int x_3), some (.int x_4), some (.int x_5), some (.int x_6), some (.int x_7), some (.int x_8), o_9] [(.int sx_0)] h z c s := by
  exact jp_if0 (pc2 := 100) rfl rfl K1 K2
theorem b148_100 {o_0 : Option Value} {o_1 : Option Value} {x_2 : Int32} {o_3 : Option Value} {o_4 : Option Value} {o_5 : Option Value} {o_6 : Option Value} {o_7 : Option Value} {o_8 : Option Value} {o_9 : Option Value} (q1 : Q (some (.int x_2)) h z)  : ip sc call 148 MC MS Q 100 [o_0, o_1, some (.int x_2), o_3, o_4, o_5, o_6, o_7, o_8, o_9] [] h z c s := by
  refine jp_load (pc2 := 101) (n := 2) rfl rfl rfl rfl ?_
  exact ip_iret (st := []) rfl rfl rfl q1
theorem b148_102 {r_0 : Nat} {x_1 : Int32} {x_2 : Int32} {x_3 : Int32} {x_4 : Int32} {x_5 : Int32} {x_6 : Int32} {x_7 : Int32} {x_8 : Int32} {o_9 : Option Value} {fs1 : List Value} (e2 : h r_0 = some (.inr (9, fs1))) (l3 : fs1.length = 16) (K : ip sc call 148 MC MS Q 23 [some (.ref r_0), some (.int x_1), some (.int (x_2 + 1)), some (.int x_3), some (.int x_4), some (.int x_5), some (.int x_6), some (.int x_7), some (.int x_8), o_9] [] (hup (hup (hup (hup (hup (hup h r_0 (.inr (9, (fs1.set 6 (.int x_3))))) r_0 (.inr (9, ((fs1.set 6 (.int x_3)).set 7 (.int x_4))))) r_0 (.inr (9, (((fs1.set 6 (.int x_3)).set 7 (.int x_4)).set 8 (.int x_5))))) r_0 (.inr (9, ((((fs1.set 6 (.int x_3)).set 7 (.int x_4)).set 8 (.int x_5)).set 9 (.int x_6))))) r_0 (.inr (9, (((((fs1.set 6 (.int x_3)).set 7 (.int x_4)).set 8 (.int x_5)).set 9 (.int x_6)).set 10 (.int x_7))))) r_0 (.inr (9, ((((((fs1.set 6 (.int x_3)).set 7 (.int x_4)).set 8 (.int x_5)).set 9 (.int x_6)).set 10 (.int x_7)).set 11 (.int x_8))))) z c s) : ip sc call 148 MC MS Q 102 [some (.ref r_0), some (.int x_1), some (.int x_2), some (.int x_3), some (.int x_4), some (.int x_5), some (.int x_6), some (.int x_7), some (.int x_8), o_9] [] h z c s := by
  refine jp_load (pc2 := 103) (n := 0) rfl rfl rfl rfl ?_
  refine jp_load (pc2 := 104) (n := 3) rfl rfl rfl rfl ?_
  refine jp_putf (pc2 := 107) rfl rfl e2 (ln_lt l3 (by decide)) ⟨rfl, rfl⟩ ?_
  refine jp_load (pc2 := 108) (n := 0) rfl rfl rfl rfl ?_
  refine jp_load (pc2 := 110) (n := 4) rfl rfl rfl rfl ?_
  refine jp_putf (pc2 := 113) rfl rfl hup_eq (ls_lt (ln_lt l3 (by decide))) ⟨rfl, rfl⟩ ?_
  refine jp_load (pc2 := 114) (n := 0) rfl rfl rfl rfl ?_
  refine jp_load (pc2 := 116) (n := 5) rfl rfl rfl rfl ?_
  refine jp_putf (pc2 := 119) rfl rfl hup_eq (ls_lt (ls_lt (ln_lt l3 (by decide)))) ⟨rfl, rfl⟩ ?_
  refine jp_load (pc2 := 120) (n := 0) rfl rfl rfl rfl ?_
  refine jp_load (pc2 := 122) (n := 6) rfl rfl rfl rfl ?_
  refine jp_putf (pc2 := 125) rfl rfl hup_eq (ls_lt (ls_lt (ls_lt (ln_lt l3 (by decide))))) ⟨rfl, rfl⟩ ?_
  refine jp_load (pc2 := 126) (n := 0) rfl rfl rfl rfl ?_
  refine jp_load (pc2 := 128) (n := 7) rfl rfl rfl rfl ?_
  refine jp_putf (pc2 := 131) rfl rfl hup_eq (ls_lt (ls_lt (ls_lt (ls_lt (ln_lt l3 (by decide)))))) ⟨rfl, rfl⟩ ?_
  refine jp_load (pc2 := 132) (n := 0) rfl rfl rfl rfl ?_
  refine jp_load (pc2 := 134) (n := 8) rfl rfl rfl rfl ?_
  refine jp_putf (pc2 := 137) rfl rfl hup_eq (ls_lt (ls_lt (ls_lt (ls_lt (ls_lt (ln_lt l3 (by decide))))))) ⟨rfl, rfl⟩ ?_
  refine jp_iinc (pc2 := 140) (n := 2) (v := x_2 + 1) rfl rfl rfl rfl rfl ?_
  refine ip_goto rfl ?_
  exact K
theorem b148_143 {o_0 : Option Value} {o_1 : Option Value} {o_2 : Option Value} {o_3 : Option Value} {o_4 : Option Value} {o_5 : Option Value} {o_6 : Option Value} {o_7 : Option Value} {o_8 : Option Value} {o_9 : Option Value} (q1 : Q (some (.int ((-1)))) h z)  : ip sc call 148 MC MS Q 143 [o_0, o_1, o_2, o_3, o_4, o_5, o_6, o_7, o_8, o_9] [] h z c s := by
  refine jp_con (pc2 := 144) (v := .int (-1)) rfl rfl rfl ?_
  exact ip_iret (st := []) rfl rfl rfl q1
theorem b149_0 {r_0 : Nat} {x_1 : Int32} {o_2 : Option Value} {P : ipQ} (m1 : c ≤ MC) (m2 : s ≤ MS) (hc : call 95 [(.int x_1), (.int 4)] h z 0 0 P) (K : ∀ (o : Option Value) (h2 : HP) (z2 : Nat), P o h2 z2 → ip sc call 149 MC MS Q 5 [some (.ref r_0), some (.int x_1), o_2] (o.toList ++ []) h2 z2 c s) : ip sc call 149 MC MS Q 0 [some (.ref r_0), some (.int x_1), o_2] [] h z c s := by
  refine jp_load (pc2 := 1) (n := 1) rfl rfl rfl rfl ?_
  refine jp_con (pc2 := 2) (v := .int 4) rfl rfl rfl ?_
  exact jp_stat0 (pc2 := 5) (As := [(.int x_1), (.int 4)]) (rest := []) rfl rfl rfl (Nat.le_of_ble_eq_true rfl) m1 m2 (by decide) hc rfl K
theorem b149_5 {r_0 : Nat} {x_1 : Int32} {o_2 : Option Value} {sx_0 : Int32}  (K1 : ¬ sx_0 = 0 → ip sc call 149 MC MS Q 10 [some (.ref r_0), some (.int x_1), o_2] [] h z c s) (K2 : ¬ (¬ sx_0 = 0) → ip sc call 149 MC MS Q 8 [some (.ref r_0), some (.int x_1), o_2] [] h z c s) : ip sc call 149 MC MS Q 5 [some (.ref r_0), some (.int x_1), o_2] [(.int sx_0)] h z c s := by
  exact jp_if0 (pc2 := 8) rfl rfl K1 K2
theorem b149_8 {o_0 : Option Value} {o_1 : Option Value} {o_2 : Option Value} (q1 : Q (some (.int 0)) h z)  : ip sc call 149 MC MS Q 8 [o_0, o_1, o_2] [] h z c s := by
  refine jp_con (pc2 := 9) (v := .int 0) rfl rfl rfl ?_
  exact ip_iret (st := []) rfl rfl rfl q1
theorem b149_10 {r_0 : Nat} {x_1 : Int32} {o_2 : Option Value} {fs1 : List Value} {q_fs1_1 : Nat} {n4 : Nat} {f5 : Nat → Int32} (e2 : h r_0 = some (.inr (9, fs1))) (e3 : fs1[1]? = some (.ref q_fs1_1)) (e6 : h q_fs1_1 = some (.inl (3, n4, .inl f5))) (b7 : vp_in x_1 n4) (K : ip sc call 149 MC MS Q 19 [some (.ref r_0), some (.int x_1), some (.int 0)] [] (hup h q_fs1_1 (.inl (3, n4, .inl (upd f5 x_1.toNatClampNeg (vp_nar .boolean 1))))) z c s) : ip sc call 149 MC MS Q 10 [some (.ref r_0), some (.int x_1), o_2] [] h z c s := by
  refine jp_load (pc2 := 11) (n := 0) rfl rfl rfl rfl ?_
  refine jp_getf (pc2 := 14) rfl rfl e2 e3 ?_
  refine jp_load (pc2 := 15) (n := 1) rfl rfl rfl rfl ?_
  refine jp_con (pc2 := 16) (v := .int 1) rfl rfl rfl ?_
  refine jp_zast (pc2 := 17) rfl rfl e6 b7 ?_
  refine jp_con (pc2 := 18) (v := .int 0) rfl rfl rfl ?_
  refine jp_store (pc2 := 19) (n := 2) rfl rfl ⟨rfl, rfl⟩ rfl (Nat.le_of_ble_eq_true rfl) ?_
  exact K
theorem b149_19 {r_0 : Nat} {x_1 : Int32} {x_2 : Int32}  (K1 : (8180 : Int32) ≤ x_2 → ip sc call 149 MC MS Q 52 [some (.ref r_0), some (.int x_1), some (.int x_2)] [] h z c s) (K2 : ¬ ((8180 : Int32) ≤ x_2) → ip sc call 149 MC MS Q 26 [some (.ref r_0), some (.int x_1), some (.int x_2)] [] h z c s) : ip sc call 149 MC MS Q 19 [some (.ref r_0), some (.int x_1), some (.int x_2)] [] h z c s := by
  refine jp_load (pc2 := 20) (n := 2) rfl rfl rfl rfl ?_
  refine jp_con (pc2 := 23) (v := .int 8180) rfl rfl rfl ?_
  exact jp_icmp (pc2 := 26) rfl rfl K1 K2
theorem b149_26 {r_0 : Nat} {x_1 : Int32} {x_2 : Int32} {fs1 : List Value} {q_fs1_0 : Nat} {n4 : Nat} {f5 : Nat → Int32} (e2 : h r_0 = some (.inr (9, fs1))) (e3 : fs1[0]? = some (.ref q_fs1_0)) (e6 : h q_fs1_0 = some (.inl (0, n4, .inl f5))) (b7 : vp_in x_2 n4) (b8 : vp_in ((8180 * (x_1 + 1)) + x_2) n4) (K : ip sc call 149 MC MS Q 19 [some (.ref r_0), some (.int x_1), some (.int (x_2 + 1))] [] (hup h q_fs1_0 (.inl (0, n4, .inl (upd f5 ((8180 * (x_1 + 1)) + x_2).toNatClampNeg (f5 x_2.toNatClampNeg))))) z c s) : ip sc call 149 MC MS Q 26 [some (.ref r_0), some (.int x_1), some (.int x_2)] [] h z c s := by
  refine jp_load (pc2 := 27) (n := 0) rfl rfl rfl rfl ?_
  refine jp_getf (pc2 := 30) rfl rfl e2 e3 ?_
  refine jp_con (pc2 := 33) (v := .int 8180) rfl rfl rfl ?_
  refine jp_load (pc2 := 34) (n := 1) rfl rfl rfl rfl ?_
  refine jp_con (pc2 := 35) (v := .int 1) rfl rfl rfl ?_
  refine jp_bin (pc2 := 36) (v := x_1 + 1) rfl rfl rfl ?_
  refine jp_bin (pc2 := 37) (v := 8180 * (x_1 + 1)) rfl rfl rfl ?_
  refine jp_load (pc2 := 38) (n := 2) rfl rfl rfl rfl ?_
  refine jp_bin (pc2 := 39) (v := (8180 * (x_1 + 1)) + x_2) rfl rfl rfl ?_
  refine jp_load (pc2 := 40) (n := 0) rfl rfl rfl rfl ?_
  refine jp_getf (pc2 := 43) rfl rfl e2 e3 ?_
  refine jp_load (pc2 := 44) (n := 2) rfl rfl rfl rfl ?_
  refine jp_iald (pc2 := 45) rfl rfl e6 b7 ?_
  refine jp_iast (pc2 := 46) rfl rfl e6 b8 ?_
  refine jp_iinc (pc2 := 49) (n := 2) (v := x_2 + 1) rfl rfl rfl rfl rfl ?_
  refine ip_goto rfl ?_
  exact K
theorem b149_52 {o_0 : Option Value} {o_1 : Option Value} {o_2 : Option Value} (q1 : Q (some (.int 1)) h z)  : ip sc call 149 MC MS Q 52 [o_0, o_1, o_2] [] h z c s := by
  refine jp_con (pc2 := 53) (v := .int 1) rfl rfl rfl ?_
  exact ip_iret (st := []) rfl rfl rfl q1
theorem b150_0 {r_0 : Nat} {x_1 : Int32} {o_2 : Option Value} {P : ipQ} (m1 : c ≤ MC) (m2 : s ≤ MS) (hc : call 95 [(.int x_1), (.int 4)] h z 0 0 P) (K : ∀ (o : Option Value) (h2 : HP) (z2 : Nat), P o h2 z2 → ip sc call 150 MC MS Q 5 [some (.ref r_0), some (.int x_1), o_2] (o.toList ++ []) h2 z2 c s) : ip sc call 150 MC MS Q 0 [some (.ref r_0), some (.int x_1), o_2] [] h z c s := by
  refine jp_load (pc2 := 1) (n := 1) rfl rfl rfl rfl ?_
  refine jp_con (pc2 := 2) (v := .int 4) rfl rfl rfl ?_
  exact jp_stat0 (pc2 := 5) (As := [(.int x_1), (.int 4)]) (rest := []) rfl rfl rfl (Nat.le_of_ble_eq_true rfl) m1 m2 (by decide) hc rfl K
theorem b150_5 {r_0 : Nat} {x_1 : Int32} {o_2 : Option Value} {sx_0 : Int32}  (K1 : sx_0 = 0 → ip sc call 150 MC MS Q 17 [some (.ref r_0), some (.int x_1), o_2] [] h z c s) (K2 : ¬ (sx_0 = 0) → ip sc call 150 MC MS Q 8 [some (.ref r_0), some (.int x_1), o_2] [] h z c s) : ip sc call 150 MC MS Q 5 [some (.ref r_0), some (.int x_1), o_2] [(.int sx_0)] h z c s := by
  exact jp_if0 (pc2 := 8) rfl rfl K1 K2
theorem b150_8 {r_0 : Nat} {x_1 : Int32} {o_2 : Option Value} {fs1 : List Value} {q_fs1_1 : Nat} {n4 : Nat} {f5 : Nat → Int32} (e2 : h r_0 = some (.inr (9, fs1))) (e3 : fs1[1]? = some (.ref q_fs1_1)) (e6 : h q_fs1_1 = some (.inl (3, n4, .inl f5))) (b7 : vp_in x_1 n4) (K1 : ¬ (f5 x_1.toNatClampNeg) = 0 → ip sc call 150 MC MS Q 19 [some (.ref r_0), some (.int x_1), o_2] [] h z c s) (K2 : ¬ (¬ (f5 x_1.toNatClampNeg) = 0) → ip sc call 150 MC MS Q 17 [some (.ref r_0), some (.int x_1), o_2] [] h z c s) : ip sc call 150 MC MS Q 8 [some (.ref r_0), some (.int x_1), o_2] [] h z c s := by
  refine jp_load (pc2 := 9) (n := 0) rfl rfl rfl rfl ?_
  refine jp_getf (pc2 := 12) rfl rfl e2 e3 ?_
  refine jp_load (pc2 := 13) (n := 1) rfl rfl rfl rfl ?_
  refine jp_bald (pc2 := 14) rfl rfl e6 (by decide) b7 ?_
  exact jp_if0 (pc2 := 17) rfl rfl K1 K2
theorem b150_17 {o_0 : Option Value} {o_1 : Option Value} {o_2 : Option Value} (q1 : Q (some (.int 0)) h z)  : ip sc call 150 MC MS Q 17 [o_0, o_1, o_2] [] h z c s := by
  refine jp_con (pc2 := 18) (v := .int 0) rfl rfl rfl ?_
  exact ip_iret (st := []) rfl rfl rfl q1
theorem b150_19 {r_0 : Nat} {x_1 : Int32} {o_2 : Option Value}  (K : ip sc call 150 MC MS Q 21 [some (.ref r_0), some (.int x_1), some (.int 0)] [] h z c s) : ip sc call 150 MC MS Q 19 [some (.ref r_0), some (.int x_1), o_2] [] h z c s := by
  refine jp_con (pc2 := 20) (v := .int 0) rfl rfl rfl ?_
  refine jp_store (pc2 := 21) (n := 2) rfl rfl ⟨rfl, rfl⟩ rfl (Nat.le_of_ble_eq_true rfl) ?_
  exact K
theorem b150_21 {r_0 : Nat} {x_1 : Int32} {x_2 : Int32}  (K1 : (8180 : Int32) ≤ x_2 → ip sc call 150 MC MS Q 54 [some (.ref r_0), some (.int x_1), some (.int x_2)] [] h z c s) (K2 : ¬ ((8180 : Int32) ≤ x_2) → ip sc call 150 MC MS Q 28 [some (.ref r_0), some (.int x_1), some (.int x_2)] [] h z c s) : ip sc call 150 MC MS Q 21 [some (.ref r_0), some (.int x_1), some (.int x_2)] [] h z c s := by
  refine jp_load (pc2 := 22) (n := 2) rfl rfl rfl rfl ?_
  refine jp_con (pc2 := 25) (v := .int 8180) rfl rfl rfl ?_
  exact jp_icmp (pc2 := 28) rfl rfl K1 K2
theorem b150_28 {r_0 : Nat} {x_1 : Int32} {x_2 : Int32} {fs1 : List Value} {q_fs1_0 : Nat} {n4 : Nat} {f5 : Nat → Int32} (e2 : h r_0 = some (.inr (9, fs1))) (e3 : fs1[0]? = some (.ref q_fs1_0)) (e6 : h q_fs1_0 = some (.inl (0, n4, .inl f5))) (b7 : vp_in ((8180 * (x_1 + 1)) + x_2) n4) (b8 : vp_in x_2 n4) (K : ip sc call 150 MC MS Q 21 [some (.ref r_0), some (.int x_1), some (.int (x_2 + 1))] [] (hup h q_fs1_0 (.inl (0, n4, .inl (upd f5 x_2.toNatClampNeg (f5 ((8180 * (x_1 + 1)) + x_2).toNatClampNeg))))) z c s) : ip sc call 150 MC MS Q 28 [some (.ref r_0), some (.int x_1), some (.int x_2)] [] h z c s := by
  refine jp_load (pc2 := 29) (n := 0) rfl rfl rfl rfl ?_
  refine jp_getf (pc2 := 32) rfl rfl e2 e3 ?_
  refine jp_load (pc2 := 33) (n := 2) rfl rfl rfl rfl ?_
  refine jp_load (pc2 := 34) (n := 0) rfl rfl rfl rfl ?_
  refine jp_getf (pc2 := 37) rfl rfl e2 e3 ?_
  refine jp_con (pc2 := 40) (v := .int 8180) rfl rfl rfl ?_
  refine jp_load (pc2 := 41) (n := 1) rfl rfl rfl rfl ?_
  refine jp_con (pc2 := 42) (v := .int 1) rfl rfl rfl ?_
  refine jp_bin (pc2 := 43) (v := x_1 + 1) rfl rfl rfl ?_
  refine jp_bin (pc2 := 44) (v := 8180 * (x_1 + 1)) rfl rfl rfl ?_
  refine jp_load (pc2 := 45) (n := 2) rfl rfl rfl rfl ?_
  refine jp_bin (pc2 := 46) (v := (8180 * (x_1 + 1)) + x_2) rfl rfl rfl ?_
  refine jp_iald (pc2 := 47) rfl rfl e6 b7 ?_
  refine jp_iast (pc2 := 48) rfl rfl e6 b8 ?_
  refine jp_iinc (pc2 := 51) (n := 2) (v := x_2 + 1) rfl rfl rfl rfl rfl ?_
  refine ip_goto rfl ?_
  exact K
theorem b150_54 {o_0 : Option Value} {o_1 : Option Value} {o_2 : Option Value} (q1 : Q (some (.int 1)) h z)  : ip sc call 150 MC MS Q 54 [o_0, o_1, o_2] [] h z c s := by
  refine jp_con (pc2 := 55) (v := .int 1) rfl rfl rfl ?_
  exact ip_iret (st := []) rfl rfl rfl q1
end BLK
