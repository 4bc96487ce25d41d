/-! straight stretches of bytecode, printed by wip/whole/gen_blk.py -/
section BLK
variable {sc : ipSc} {call : ipCall} {MC MS : Nat} {Q : ipQ} {h : HP} {z c s : Nat}
theorem b35_0 {r_0 : Nat} {x_1 : Int32} {fs3 : List Value} (m1 : c + 1 ≤ MC) (m2 : s + 100 ≤ MS) (e4 : h r_0 = some (.inr (6, fs3))) (n5 : r_0 ≠ z) (l6 : fs3.length = 11) (m7 : c + 1 + 1 ≤ MC) (m8 : s + 100 + 32 ≤ MS) (n9 : r_0 ≠ z + 1) (m10 : c + 1 + 1 + 1 ≤ MC) (m11 : s + 100 + 32 + 25 ≤ MS) (n12 : r_0 ≠ z + 1 + 1) (m13 : c + 1 + 1 + 1 + 1 ≤ MC) (m14 : s + 100 + 32 + 25 + 31 ≤ MS) (n15 : r_0 ≠ z + 1 + 1 + 1) (t16 : ipFit 6 0 (.int x_1)) (q17 : Q none (hup (hup (hup (hup (hup (hup (hup (hup (hup h z (.inl (0, 100, .inl (fun _ => 0)))) r_0 (.inr (6, (fs3.set 1 (.ref z))))) (z + 1) (.inl (0, 32, .inl (fun _ => 0)))) r_0 (.inr (6, ((fs3.set 1 (.ref z)).set 2 (.ref (z + 1)))))) (z + 1 + 1) (.inl (0, 25, .inl (fun _ => 0)))) r_0 (.inr (6, (((fs3.set 1 (.ref z)).set 2 (.ref (z + 1))).set 3 (.ref (z + 1 + 1)))))) (z + 1 + 1 + 1) (.inl (0, 31, .inl (fun _ => 0)))) r_0 (.inr (6, ((((fs3.set 1 (.ref z)).set 2 (.ref (z + 1))).set 3 (.ref (z + 1 + 1))).set 4 (.ref (z + 1 + 1 + 1)))))) r_0 (.inr (6, (((((fs3.set 1 (.ref z)).set 2 (.ref (z + 1))).set 3 (.ref (z + 1 + 1))).set 4 (.ref (z + 1 + 1 + 1))).set 0 (.int x_1))))) (z + 1 + 1 + 1 + 1))  : ip sc call 35 MC MS Q 0 [some (.ref r_0), some (.int x_1)] [] h z c s := by
  refine jp_load (pc2 := 1) (n := 0) rfl rfl rfl rfl ?_
  refine jp_objinit (pc2 := 4) rfl rfl (Nat.le_of_ble_eq_true rfl) ?_
  refine jp_load (pc2 := 5) (n := 0) rfl rfl rfl rfl ?_
  refine jp_con (pc2 := 7) (v := .int 100) rfl rfl rfl ?_
  refine jp_newa0 (pc2 := 9) (N := 100) rfl rfl (by decide) (by decide) (by decide) m1 m2 ?_
  refine jp_putf (pc2 := 12) rfl rfl (hup_ne n5 e4) (ln_lt l6 (by decide)) ⟨rfl, rfl⟩ ?_
  refine jp_load (pc2 := 13) (n := 0) rfl rfl rfl rfl ?_
  refine jp_con (pc2 := 15) (v := .int 32) rfl rfl rfl ?_
  refine jp_newa0 (pc2 := 17) (N := 32) rfl rfl (by decide) (by decide) (by decide) m7 m8 ?_
  refine jp_putf (pc2 := 20) rfl rfl (hup_ne n9 hup_eq) (ls_lt (ln_lt l6 (by decide))) ⟨rfl, rfl⟩ ?_
  refine jp_load (pc2 := 21) (n := 0) rfl rfl rfl rfl ?_
  refine jp_con (pc2 := 23) (v := .int 25) rfl rfl rfl ?_
  refine jp_newa0 (pc2 := 25) (N := 25) rfl rfl (by decide) (by decide) (by decide) m10 m11 ?_
  refine jp_putf (pc2 := 28) rfl rfl (hup_ne n12 hup_eq) (ls_lt (ls_lt (ln_lt l6 (by decide)))) ⟨rfl, rfl⟩ ?_
  refine jp_load (pc2 := 29) (n := 0) rfl rfl rfl rfl ?_
  refine jp_con (pc2 := 31) (v := .int 31) rfl rfl rfl ?_
  refine jp_newa0 (pc2 := 33) (N := 31) rfl rfl (by decide) (by decide) (by decide) m13 m14 ?_
  refine jp_putf (pc2 := 36) rfl rfl (hup_ne n15 hup_eq) (ls_lt (ls_lt (ls_lt (ln_lt l6 (by decide))))) ⟨rfl, rfl⟩ ?_
  refine jp_load (pc2 := 37) (n := 0) rfl rfl rfl rfl ?_
  refine jp_load (pc2 := 38) (n := 1) rfl rfl rfl rfl ?_
  refine jp_putf (pc2 := 41) rfl rfl hup_eq (ls_lt (ls_lt (ls_lt (ls_lt (ln_lt l6 (by decide)))))) t16 ?_
  exact ip_vret (st := []) rfl rfl q17
theorem b36_0 {r_0 : Nat} {x_1 : Int32}  (K1 : x_1 < 0 → ip sc call 36 MC MS Q 16 [some (.ref r_0), some (.int x_1)] [] h z c s) (K2 : ¬ (x_1 < 0) → ip sc call 36 MC MS Q 4 [some (.ref r_0), some (.int x_1)] [] h z c s) : ip sc call 36 MC MS Q 0 [some (.ref r_0), some (.int x_1)] [] h z c s := by
  refine jp_load (pc2 := 1) (n := 1) rfl rfl rfl rfl ?_
  exact jp_if0 (pc2 := 4) rfl rfl K1 K2
theorem b36_4 {r_0 : Nat} {x_1 : Int32} {fs1 : List Value} {v_fs1_7 : Int32} (e2 : h r_0 = some (.inr (6, fs1))) (e3 : fs1[7]? = some (.int v_fs1_7)) (K1 : v_fs1_7 ≤ x_1 → ip sc call 36 MC MS Q 16 [some (.ref r_0), some (.int x_1)] [] h z c s) (K2 : ¬ (v_fs1_7 ≤ x_1) → ip sc call 36 MC MS Q 12 [some (.ref r_0), some (.int x_1)] [] h z c s) : ip sc call 36 MC MS Q 4 [some (.ref r_0), some (.int x_1)] [] h z c s := by
  refine jp_load (pc2 := 5) (n := 1) rfl rfl rfl rfl ?_
  refine jp_load (pc2 := 6) (n := 0) rfl rfl rfl rfl ?_
  refine jp_getf (pc2 := 9) rfl rfl e2 e3 ?_
  exact jp_icmp (pc2 := 12) rfl rfl K1 K2
theorem b36_12 {o_0 : Option Value} {o_1 : Option Value}  (K : ip sc call 36 MC MS Q 17 [o_0, o_1] [(.int 1)] h z c s) : ip sc call 36 MC MS Q 12 [o_0, o_1] [] h z c s := by
  refine jp_con (pc2 := 13) (v := .int 1) rfl rfl rfl ?_
  refine ip_goto rfl ?_
  exact K
theorem b36_16 {o_0 : Option Value} {o_1 : Option Value}  (K : ip sc call 36 MC MS Q 17 [o_0, o_1] [(.int 0)] h z c s) : ip sc call 36 MC MS Q 16 [o_0, o_1] [] h z c s := by
  refine jp_con (pc2 := 17) (v := .int 0) rfl rfl rfl ?_
  exact K
theorem b36_17 {o_0 : Option Value} {o_1 : Option Value} {sx_0 : Int32} (t1 : narrow .boolean (.int sx_0) = .int sx_0) (q2 : Q (some (.int sx_0)) h z)  : ip sc call 36 MC MS Q 17 [o_0, o_1] [(.int sx_0)] h z c s := by
  exact ip_iret (st := []) rfl rfl t1 q2
theorem b37_0 {r_0 : Nat} {x_1 : Int32} {x_2 : Int32} {fs1 : List Value} {P : ipQ} (e2 : h r_0 = some (.inr (6, fs1))) (m3 : c ≤ MC) (m4 : s ≤ MS) (hc : call 36 [(.ref r_0), (.int x_1)] h z 0 0 P) (K : ∀ (o : Option Value) (h2 : HP) (z2 : Nat), P o h2 z2 → ip sc call 37 MC MS Q 5 [some (.ref r_0), some (.int x_1), some (.int x_2)] (o.toList ++ []) h2 z2 c s) : ip sc call 37 MC MS Q 0 [some (.ref r_0), some (.int x_1), some (.int x_2)] [] h z c s := by
  refine jp_load (pc2 := 1) (n := 0) rfl rfl rfl rfl ?_
  refine jp_load (pc2 := 2) (n := 1) rfl rfl rfl rfl ?_
  exact jp_virt0 (pc2 := 5) (As := [(.int x_1)]) (rest := []) rfl rfl rfl (Nat.le_of_ble_eq_true rfl) e2 m3 m4 hc rfl K
theorem b37_5 {r_0 : Nat} {x_1 : Int32} {x_2 : Int32} {sx_0 : Int32}  (K1 : sx_0 = 0 → ip sc call 37 MC MS Q 25 [some (.ref r_0), some (.int x_1), some (.int x_2)] [] h z c s) (K2 : ¬ (sx_0 = 0) → ip sc call 37 MC MS Q 8 [some (.ref r_0), some (.int x_1), some (.int x_2)] [] h z c s) : ip sc call 37 MC MS Q 5 [some (.ref r_0), some (.int x_1), some (.int x_2)] [(.int sx_0)] h z c s := by
  exact jp_if0 (pc2 := 8) rfl rfl K1 K2
theorem b37_8 {r_0 : Nat} {x_1 : Int32} {x_2 : Int32}  (K1 : x_2 < 0 → ip sc call 37 MC MS Q 25 [some (.ref r_0), some (.int x_1), some (.int x_2)] [] h z c s) (K2 : ¬ (x_2 < 0) → ip sc call 37 MC MS Q 12 [some (.ref r_0), some (.int x_1), some (.int x_2)] [] h z c s) : ip sc call 37 MC MS Q 8 [some (.ref r_0), some (.int x_1), some (.int x_2)] [] h z c s := by
  refine jp_load (pc2 := 9) (n := 2) rfl rfl rfl rfl ?_
  exact jp_if0 (pc2 := 12) rfl rfl K1 K2
theorem b37_12 {r_0 : Nat} {x_1 : Int32} {x_2 : Int32} {fs1 : List Value} {P : ipQ} (e2 : h r_0 = some (.inr (6, fs1))) (m3 : c ≤ MC) (m4 : s ≤ MS) (hc : call 39 [(.ref r_0), (.int x_1)] h z 0 0 P) (K : ∀ (o : Option Value) (h2 : HP) (z2 : Nat), P o h2 z2 → ip sc call 37 MC MS Q 18 [some (.ref r_0), some (.int x_1), some (.int x_2)] (o.toList ++ [(.int x_2)]) h2 z2 c s) : ip sc call 37 MC MS Q 12 [some (.ref r_0), some (.int x_1), some (.int x_2)] [] h z c s := by
  refine jp_load (pc2 := 13) (n := 2) rfl rfl rfl rfl ?_
  refine jp_load (pc2 := 14) (n := 0) rfl rfl rfl rfl ?_
  refine jp_load (pc2 := 15) (n := 1) rfl rfl rfl rfl ?_
  exact jp_virt0 (pc2 := 18) (As := [(.int x_1)]) (rest := [(.int x_2)]) rfl rfl rfl (Nat.le_of_ble_eq_true rfl) e2 m3 m4 hc rfl K
theorem b37_18 {o_0 : Option Value} {o_1 : Option Value} {o_2 : Option Value} {sx_0 : Int32} {sx_1 : Int32}  (K1 : sx_1 ≤ sx_0 → ip sc call 37 MC MS Q 25 [o_0, o_1, o_2] [] h z c s) (K2 : ¬ (sx_1 ≤ sx_0) → ip sc call 37 MC MS Q 21 [o_0, o_1, o_2] [] h z c s) : ip sc call 37 MC MS Q 18 [o_0, o_1, o_2] [(.int sx_1), (.int sx_0)] h z c s := by
  exact jp_icmp (pc2 := 21) rfl rfl K1 K2
theorem b37_21 {o_0 : Option Value} {o_1 : Option Value} {o_2 : Option Value}  (K : ip sc call 37 MC MS Q 26 [o_0, o_1, o_2] [(.int 1)] h z c s) : ip sc call 37 MC MS Q 21 [o_0, o_1, o_2] [] h z c s := by
  refine jp_con (pc2 := 22) (v := .int 1) rfl rfl rfl ?_
  refine ip_goto rfl ?_
  exact K
theorem b37_25 {o_0 : Option Value} {o_1 : Option Value} {o_2 : Option Value}  (K : ip sc call 37 MC MS Q 26 [o_0, o_1, o_2] [(.int 0)] h z c s) : ip sc call 37 MC MS Q 25 [o_0, o_1, o_2] [] h z c s := by
  refine jp_con (pc2 := 26) (v := .int 0) rfl rfl rfl ?_
  exact K
theorem b37_26 {o_0 : Option Value} {o_1 : Option Value} {o_2 : Option Value} {sx_0 : Int32} (t1 : narrow .boolean (.int sx_0) = .int sx_0) (q2 : Q (some (.int sx_0)) h z)  : ip sc call 37 MC MS Q 26 [o_0, o_1, o_2] [(.int sx_0)] h z c s := by
  exact ip_iret (st := []) rfl rfl t1 q2
theorem b38_0 {r_0 : Nat} {x_1 : Int32} {x_2 : Int32} {x_3 : Int32} {fs1 : List Value} {P : ipQ} (e2 : h r_0 = some (.inr (6, fs1))) (m3 : c ≤ MC) (m4 : s ≤ MS) (hc : call 37 [(.ref r_0), (.int x_1), (.int x_2)] h z 0 0 P) (K : ∀ (o : Option Value) (h2 : HP) (z2 : Nat), P o h2 z2 → ip sc call 38 MC MS Q 6 [some (.ref r_0), some (.int x_1), some (.int x_2), some (.int x_3)] (o.toList ++ []) h2 z2 c s) : ip sc call 38 MC MS Q 0 [some (.ref r_0), some (.int x_1), some (.int x_2), some (.int x_3)] [] h z c s := by
  refine jp_load (pc2 := 1) (n := 0) rfl rfl rfl rfl ?_
  refine jp_load (pc2 := 2) (n := 1) rfl rfl rfl rfl ?_
  refine jp_load (pc2 := 3) (n := 2) rfl rfl rfl rfl ?_
  exact jp_virt0 (pc2 := 6) (As := [(.int x_1), (.int x_2)]) (rest := []) rfl rfl rfl (Nat.le_of_ble_eq_true rfl) e2 m3 m4 hc rfl K
theorem b38_6 {r_0 : Nat} {x_1 : Int32} {x_2 : Int32} {x_3 : Int32} {sx_0 : Int32}  (K1 : sx_0 = 0 → ip sc call 38 MC MS Q 27 [some (.ref r_0), some (.int x_1), some (.int x_2), some (.int x_3)] [] h z c s) (K2 : ¬ (sx_0 = 0) → ip sc call 38 MC MS Q 9 [some (.ref r_0), some (.int x_1), some (.int x_2), some (.int x_3)] [] h z c s) : ip sc call 38 MC MS Q 6 [some (.ref r_0), some (.int x_1), some (.int x_2), some (.int x_3)] [(.int sx_0)] h z c s := by
  exact jp_if0 (pc2 := 9) rfl rfl K1 K2
theorem b38_9 {r_0 : Nat} {x_1 : Int32} {x_2 : Int32} {x_3 : Int32}  (K1 : x_3 < 0 → ip sc call 38 MC MS Q 27 [some (.ref r_0), some (.int x_1), some (.int x_2), some (.int x_3)] [] h z c s) (K2 : ¬ (x_3 < 0) → ip sc call 38 MC MS Q 13 [some (.ref r_0), some (.int x_1), some (.int x_2), some (.int x_3)] [] h z c s) : ip sc call 38 MC MS Q 9 [some (.ref r_0), some (.int x_1), some (.int x_2), some (.int x_3)] [] h z c s := by
  refine jp_load (pc2 := 10) (n := 3) rfl rfl rfl rfl ?_
  exact jp_if0 (pc2 := 13) rfl rfl K1 K2
theorem b38_13 {r_0 : Nat} {x_1 : Int32} {x_2 : Int32} {x_3 : Int32} {fs1 : List Value} {P : ipQ} (e2 : h r_0 = some (.inr (6, fs1))) (m3 : c ≤ MC) (m4 : s ≤ MS) (hc : call 40 [(.ref r_0), (.int x_1), (.int x_2)] h z 0 0 P) (K : ∀ (o : Option Value) (h2 : HP) (z2 : Nat), P o h2 z2 → ip sc call 38 MC MS Q 20 [some (.ref r_0), some (.int x_1), some (.int x_2), some (.int x_3)] (o.toList ++ [(.int x_3)]) h2 z2 c s) : ip sc call 38 MC MS Q 13 [some (.ref r_0), some (.int x_1), some (.int x_2), some (.int x_3)] [] h z c s := by
  refine jp_load (pc2 := 14) (n := 3) rfl rfl rfl rfl ?_
  refine jp_load (pc2 := 15) (n := 0) rfl rfl rfl rfl ?_
  refine jp_load (pc2 := 16) (n := 1) rfl rfl rfl rfl ?_
  refine jp_load (pc2 := 17) (n := 2) rfl rfl rfl rfl ?_
  exact jp_virt0 (pc2 := 20) (As := [(.int x_1), (.int x_2)]) (rest := [(.int x_3)]) rfl rfl rfl (Nat.le_of_ble_eq_true rfl) e2 m3 m4 hc rfl K
theorem b38_20 {o_0 : Option Value} {o_1 : Option Value} {o_2 : Option Value} {o_3 : Option Value} {sx_0 : Int32} {sx_1 : Int32}  (K1 : sx_1 ≤ sx_0 → ip sc call 38 MC MS Q 27 [o_0, o_1, o_2, o_3] [] h z c s) (K2 : ¬ (sx_1 ≤ sx_0) → ip sc call 38 MC MS Q 23 [o_0, o_1, o_2, o_3] [] h z c s) : ip sc call 38 MC MS Q 20 [o_0, o_1, o_2, o_3] [(.int sx_1), (.int sx_0)] h z c s := by
  exact jp_icmp (pc2 := 23) rfl rfl K1 K2
theorem b38_23 {o_0 : Option Value} {o_1 : Option Value} {o_2 : Option Value} {o_3 : Option Value}  (K : ip sc call 38 MC MS Q 28 [o_0, o_1, o_2, o_3] [(.int 1)] h z c s) : ip sc call 38 MC MS Q 23 [o_0, o_1, o_2, o_3] [] h z c s := by
  refine jp_con (pc2 := 24) (v := .int 1) rfl rfl rfl ?_
  refine ip_goto rfl ?_
  exact K
theorem b38_27 {o_0 : Option Value} {o_1 : Option Value} {o_2 : Option Value} {o_3 : Option Value}  (K : ip sc call 38 MC MS Q 28 [o_0, o_1, o_2, o_3] [(.int 0)] h z c s) : ip sc call 38 MC MS Q 27 [o_0, o_1, o_2, o_3] [] h z c s := by
  refine jp_con (pc2 := 28) (v := .int 0) rfl rfl rfl ?_
  exact K
theorem b38_28 {o_0 : Option Value} {o_1 : Option Value} {o_2 : Option Value} {o_3 : Option Value} {sx_0 : Int32} (t1 : narrow .boolean (.int sx_0) = .int sx_0) (q2 : Q (some (.int sx_0)) h z)  : ip sc call 38 MC MS Q 28 [o_0, o_1, o_2, o_3] [(.int sx_0)] h z c s := by
  exact ip_iret (st := []) rfl rfl t1 q2
theorem b39_0 {r_0 : Nat} {x_1 : Int32} {fs1 : List Value} {q_fs1_3 : Nat} {n4 : Nat} {f5 : Nat → Int32} (e2 : h r_0 = some (.inr (6, fs1))) (e3 : fs1[3]? = some (.ref q_fs1_3)) (e6 : h q_fs1_3 = some (.inl (0, n4, .inl f5))) (b7 : vp_in (x_1 + 1) n4) (b8 : vp_in x_1 n4) (q9 : Q (some (.int ((f5 (x_1 + 1).toNatClampNeg) - (f5 x_1.toNatClampNeg)))) h z)  : ip sc call 39 MC MS Q 0 [some (.ref r_0), some (.int x_1)] [] h z c s := by
  refine jp_load (pc2 := 1) (n := 0) rfl rfl rfl rfl ?_
  refine jp_getf (pc2 := 4) rfl rfl e2 e3 ?_
  refine jp_load (pc2 := 5) (n := 1) rfl rfl rfl rfl ?_
  refine jp_con (pc2 := 6) (v := .int 1) rfl rfl rfl ?_
  refine jp_bin (pc2 := 7) (v := x_1 + 1) rfl rfl rfl ?_
  refine jp_iald (pc2 := 8) rfl rfl e6 b7 ?_
  refine jp_load (pc2 := 9) (n := 0) rfl rfl rfl rfl ?_
  refine jp_getf (pc2 := 12) rfl rfl e2 e3 ?_
  refine jp_load (pc2 := 13) (n := 1) rfl rfl rfl rfl ?_
  refine jp_iald (pc2 := 14) rfl rfl e6 b8 ?_
  refine jp_bin (pc2 := 15) (v := (f5 (x_1 + 1).toNatClampNeg) - (f5 x_1.toNatClampNeg)) rfl rfl rfl ?_
  exact ip_iret (st := []) rfl rfl rfl q9
theorem b40_0 {r_0 : Nat} {x_1 : Int32} {x_2 : Int32} {fs1 : List Value} {q_fs1_3 : Nat} {n4 : Nat} {f5 : Nat → Int32} {P : ipQ} (e2 : h r_0 = some (.inr (6, fs1))) (e3 : fs1[3]? = some (.ref q_fs1_3)) (e6 : h q_fs1_3 = some (.inl (0, n4, .inl f5))) (b7 : vp_in x_1 n4) (m8 : c ≤ MC) (m9 : s ≤ MS) (hc : call 41 [(.ref r_0), (.int ((f5 x_1.toNatClampNeg) + x_2))] h z 0 0 P) (K : ∀ (o : Option Value) (h2 : HP) (z2 : Nat), P o h2 z2 → ip sc call 40 MC MS Q 12 [some (.ref r_0), some (.int x_1), some (.int x_2)] (o.toList ++ []) h2 z2 c s) : ip sc call 40 MC MS Q 0 [some (.ref r_0), some (.int x_1), some (.int x_2)] [] h z c s := by
  refine jp_load (pc2 := 1) (n := 0) rfl rfl rfl rfl ?_
  refine jp_load (pc2 := 2) (n := 0) rfl rfl rfl rfl ?_
  refine jp_getf (pc2 := 5) rfl rfl e2 e3 ?_
  refine jp_load (pc2 := 6) (n := 1) rfl rfl rfl rfl ?_
  refine jp_iald (pc2 := 7) rfl rfl e6 b7 ?_
  refine jp_load (pc2 := 8) (n := 2) rfl rfl rfl rfl ?_
  refine jp_bin (pc2 := 9) (v := (f5 x_1.toNatClampNeg) + x_2) rfl rfl rfl ?_
  exact jp_virt0 (pc2 := 12) (As := [(.int ((f5 x_1.toNatClampNeg) + x_2))]) (rest := []) rfl rfl rfl (Nat.le_of_ble_eq_true rfl) e2 m8 m9 hc rfl K
theorem b40_12 {o_0 : Option Value} {o_1 : Option Value} {o_2 : Option Value} {sx_0 : Int32} (q1 : Q (some (.int sx_0)) h z)  : ip sc call 40 MC MS Q 12 [o_0, o_1, o_2] [(.int sx_0)] h z c s := by
  exact ip_iret (st := []) rfl rfl rfl q1
theorem b41_0 {r_0 : Nat} {x_1 : Int32} {fs1 : List Value} {q_fs1_2 : Nat} {n4 : Nat} {f5 : Nat → Int32} (e2 : h r_0 = some (.inr (6, fs1))) (e3 : fs1[2]? = some (.ref q_fs1_2)) (e6 : h q_fs1_2 = some (.inl (0, n4, .inl f5))) (b7 : vp_in (x_1 + 1) n4) (b8 : vp_in x_1 n4) (q9 : Q (some (.int ((f5 (x_1 + 1).toNatClampNeg) - (f5 x_1.toNatClampNeg)))) h z)  : ip sc call 41 MC MS Q 0 [some (.ref r_0), some (.int x_1)] [] h z c s := by
  refine jp_load (pc2 := 1) (n := 0) rfl rfl rfl rfl ?_
  refine jp_getf (pc2 := 4) rfl rfl e2 e3 ?_
  refine jp_load (pc2 := 5) (n := 1) rfl rfl rfl rfl ?_
  refine jp_con (pc2 := 6) (v := .int 1) rfl rfl rfl ?_
  refine jp_bin (pc2 := 7) (v := x_1 + 1) rfl rfl rfl ?_
  refine jp_iald (pc2 := 8) rfl rfl e6 b7 ?_
  refine jp_load (pc2 := 9) (n := 0) rfl rfl rfl rfl ?_
  refine jp_getf (pc2 := 12) rfl rfl e2 e3 ?_
  refine jp_load (pc2 := 13) (n := 1) rfl rfl rfl rfl ?_
  refine jp_iald (pc2 := 14) rfl rfl e6 b8 ?_
  refine jp_bin (pc2 := 15) (v := (f5 (x_1 + 1).toNatClampNeg) - (f5 x_1.toNatClampNeg)) rfl rfl rfl ?_
  exact ip_iret (st := []) rfl rfl rfl q9
theorem b42_0 {r_0 : Nat} {x_1 : Int32} {x_2 : Int32} {x_3 : Int32} {fs1 : List Value} {q_fs1_1 : Nat} {q_fs1_2 : Nat} {q_fs1_3 : Nat} {n6 : Nat} {f7 : Nat → Int32} {n10 : Nat} {f11 : Nat → Int32} {n14 : Nat} {f15 : Nat → Int32} (e2 : h r_0 = some (.inr (6, fs1))) (e3 : fs1[1]? = some (.ref q_fs1_1)) (e4 : fs1[2]? = some (.ref q_fs1_2)) (e5 : fs1[3]? = some (.ref q_fs1_3)) (e8 : h q_fs1_3 = some (.inl (0, n6, .inl f7))) (b9 : vp_in x_1 n6) (e12 : h q_fs1_2 = some (.inl (0, n10, .inl f11))) (b13 : vp_in ((f7 x_1.toNatClampNeg) + x_2) n10) (e16 : h q_fs1_1 = some (.inl (0, n14, .inl f15))) (b17 : vp_in ((f11 ((f7 x_1.toNatClampNeg) + x_2).toNatClampNeg) + x_3) n14) (q18 : Q (some (.int (f15 ((f11 ((f7 x_1.toNatClampNeg) + x_2).toNatClampNeg) + x_3).toNatClampNeg))) h z)  : ip sc call 42 MC MS Q 0 [some (.ref r_0), some (.int x_1), some (.int x_2), some (.int x_3)] [] h z c s := by
  refine jp_load (pc2 := 1) (n := 0) rfl rfl rfl rfl ?_
  refine jp_getf (pc2 := 4) rfl rfl e2 e3 ?_
  refine jp_load (pc2 := 5) (n := 0) rfl rfl rfl rfl ?_
  refine jp_getf (pc2 := 8) rfl rfl e2 e4 ?_
  refine jp_load (pc2 := 9) (n := 0) rfl rfl rfl rfl ?_
  refine jp_getf (pc2 := 12) rfl rfl e2 e5 ?_
  refine jp_load (pc2 := 13) (n := 1) rfl rfl rfl rfl ?_
  refine jp_iald (pc2 := 14) rfl rfl e8 b9 ?_
  refine jp_load (pc2 := 15) (n := 2) rfl rfl rfl rfl ?_
  refine jp_bin (pc2 := 16) (v := (f7 x_1.toNatClampNeg) + x_2) rfl rfl rfl ?_
  refine jp_iald (pc2 := 17) rfl rfl e12 b13 ?_
  refine jp_load (pc2 := 18) (n := 3) rfl rfl rfl rfl ?_
  refine jp_bin (pc2 := 19) (v := (f11 ((f7 x_1.toNatClampNeg) + x_2).toNatClampNeg) + x_3) rfl rfl rfl ?_
  refine jp_iald (pc2 := 20) rfl rfl e16 b17 ?_
  exact ip_iret (st := []) rfl rfl rfl q18
theorem b43_0 {r_0 : Nat} {x_1 : Int32} {x_2 : Int32}  (K1 : ¬ x_1 = x_2 → ip sc call 43 MC MS Q 23 [some (.ref r_0), some (.int x_1), some (.int x_2)] [] h z c s) (K2 : ¬ (¬ x_1 = x_2) → ip sc call 43 MC MS Q 5 [some (.ref r_0), some (.int x_1), some (.int x_2)] [] h z c s) : ip sc call 43 MC MS Q 0 [some (.ref r_0), some (.int x_1), some (.int x_2)] [] h z c s := by
  refine jp_load (pc2 := 1) (n := 1) rfl rfl rfl rfl ?_
  refine jp_load (pc2 := 2) (n := 2) rfl rfl rfl rfl ?_
  exact jp_icmp (pc2 := 5) rfl rfl K1 K2
theorem b43_5 {r_0 : Nat} {x_1 : Int32} {o_2 : Option Value} {fs1 : List Value} {q_fs1_4 : Nat} {n4 : Nat} {f5 : Nat → Int32} (e2 : h r_0 = some (.inr (6, fs1))) (e3 : fs1[4]? = some (.ref q_fs1_4)) (e6 : h q_fs1_4 = some (.inl (0, n4, .inl f5))) (b7 : vp_in x_1 n4) (K1 : (f5 x_1.toNatClampNeg) < 2 → ip sc call 43 MC MS Q 19 [some (.ref r_0), some (.int x_1), o_2] [] h z c s) (K2 : ¬ ((f5 x_1.toNatClampNeg) < 2) → ip sc call 43 MC MS Q 15 [some (.ref r_0), some (.int x_1), o_2] [] h z c s) : ip sc call 43 MC MS Q 5 [some (.ref r_0), some (.int x_1), o_2] [] h z c s := by
  refine jp_load (pc2 := 6) (n := 0) rfl rfl rfl rfl ?_
  refine jp_getf (pc2 := 9) rfl rfl e2 e3 ?_
  refine jp_load (pc2 := 10) (n := 1) rfl rfl rfl rfl ?_
  refine jp_iald (pc2 := 11) rfl rfl e6 b7 ?_
  refine jp_con (pc2 := 12) (v := .int 2) rfl rfl rfl ?_
  exact jp_icmp (pc2 := 15) rfl rfl K1 K2
theorem b43_15 {o_0 : Option Value} {o_1 : Option Value} {o_2 : Option Value}  (K : ip sc call 43 MC MS Q 48 [o_0, o_1, o_2] [(.int 1)] h z c s) : ip sc call 43 MC MS Q 15 [o_0, o_1, o_2] [] h z c s := by
  refine jp_con (pc2 := 16) (v := .int 1) rfl rfl rfl ?_
  refine ip_goto rfl ?_
  exact K
theorem b43_19 {o_0 : Option Value} {o_1 : Option Value} {o_2 : Option Value}  (K : ip sc call 43 MC MS Q 48 [o_0, o_1, o_2] [(.int 0)] h z c s) : ip sc call 43 MC MS Q 19 [o_0, o_1, o_2] [] h z c s := by
  refine jp_con (pc2 := 20) (v := .int 0) rfl rfl rfl ?_
  refine ip_goto rfl ?_
  exact K
theorem b43_23 {r_0 : Nat} {x_1 : Int32} {x_2 : Int32} {fs1 : List Value} {q_fs1_4 : Nat} {n4 : Nat} {f5 : Nat → Int32} (e2 : h r_0 = some (.inr (6, fs1))) (e3 : fs1[4]? = some (.ref q_fs1_4)) (e6 : h q_fs1_4 = some (.inl (0, n4, .inl f5))) (b7 : vp_in x_1 n4) (K1 : (f5 x_1.toNatClampNeg) < 1 → ip sc call 43 MC MS Q 47 [some (.ref r_0), some (.int x_1), some (.int x_2)] [] h z c s) (K2 : ¬ ((f5 x_1.toNatClampNeg) < 1) → ip sc call 43 MC MS Q 33 [some (.ref r_0), some (.int x_1), some (.int x_2)] [] h z c s) : ip sc call 43 MC MS Q 23 [some (.ref r_0), some (.int x_1), some (.int x_2)] [] h z c s := by
  refine jp_load (pc2 := 24) (n := 0) rfl rfl rfl rfl ?_
  refine jp_getf (pc2 := 27) rfl rfl e2 e3 ?_
  refine jp_load (pc2 := 28) (n := 1) rfl rfl rfl rfl ?_
  refine jp_iald (pc2 := 29) rfl rfl e6 b7 ?_
  refine jp_con (pc2 := 30) (v := .int 1) rfl rfl rfl ?_
  exact jp_icmp (pc2 := 33) rfl rfl K1 K2
theorem b43_33 {r_0 : Nat} {o_1 : Option Value} {x_2 : Int32} {fs1 : List Value} {q_fs1_4 : Nat} {n4 : Nat} {f5 : Nat → Int32} (e2 : h r_0 = some (.inr (6, fs1))) (e3 : fs1[4]? = some (.ref q_fs1_4)) (e6 : h q_fs1_4 = some (.inl (0, n4, .inl f5))) (b7 : vp_in x_2 n4) (K1 : (f5 x_2.toNatClampNeg) < 1 → ip sc call 43 MC MS Q 47 [some (.ref r_0), o_1, some (.int x_2)] [] h z c s) (K2 : ¬ ((f5 x_2.toNatClampNeg) < 1) → ip sc call 43 MC MS Q 43 [some (.ref r_0), o_1, some (.int x_2)] [] h z c s) : ip sc call 43 MC MS Q 33 [some (.ref r_0), o_1, some (.int x_2)] [] h z c s := by
  refine jp_load (pc2 := 34) (n := 0) rfl rfl rfl rfl ?_
  refine jp_getf (pc2 := 37) rfl rfl e2 e3 ?_
  refine jp_load (pc2 := 38) (n := 2) rfl rfl rfl rfl ?_
  refine jp_iald (pc2 := 39) rfl rfl e6 b7 ?_
  refine jp_con (pc2 := 40) (v := .int 1) rfl rfl rfl ?_
  exact jp_icmp (pc2 := 43) rfl rfl K1 K2
theorem b43_43 {o_0 : Option Value} {o_1 : Option Value} {o_2 : Option Value}  (K : ip sc call 43 MC MS Q 48 [o_0, o_1, o_2] [(.int 1)] h z c s) : ip sc call 43 MC MS Q 43 [o_0, o_1, o_2] [] h z c s := by
  refine jp_con (pc2 := 44) (v := .int 1) rfl rfl rfl ?_
  refine ip_goto rfl ?_
  exact K
theorem b43_47 {o_0 : Option Value} {o_1 : Option Value} {o_2 : Option Value}  (K : ip sc call 43 MC MS Q 48 [o_0, o_1, o_2] [(.int 0)] h z c s) : ip sc call 43 MC MS Q 47 [o_0, o_1, o_2] [] h z c s := by
  refine jp_con (pc2 := 48) (v := .int 0) rfl rfl rfl ?_
  exact K
theorem b43_48 {o_0 : Option Value} {o_1 : Option Value} {o_2 : Option Value} {sx_0 : Int32} (t1 : narrow .boolean (.int sx_0) = .int sx_0) (q2 : Q (some (.int sx_0)) h z)  : ip sc call 43 MC MS Q 48 [o_0, o_1, o_2] [(.int sx_0)] h z c s := by
  exact ip_iret (st := []) rfl rfl t1 q2
theorem b44_0 {r_0 : Nat} {r_1 : Nat} {fs1 : List Value} {v_fs1_1 : Int32} {v_fs1_3 : Int32} (e2 : h r_1 = some (.inr (2, fs1))) (e3 : fs1[1]? = some (.int v_fs1_1)) (e4 : fs1[3]? = some (.int v_fs1_3)) (K1 : ¬ v_fs1_1 = v_fs1_3 → ip sc call 44 MC MS Q 26 [some (.ref r_0), some (.ref r_1)] [] h z c s) (K2 : ¬ (¬ v_fs1_1 = v_fs1_3) → ip sc call 44 MC MS Q 11 [some (.ref r_0), some (.ref r_1)] [] h z c s) : ip sc call 44 MC MS Q 0 [some (.ref r_0), some (.ref r_1)] [] h z c s := by
  refine jp_load (pc2 := 1) (n := 1) rfl rfl rfl rfl ?_
  refine jp_getf (pc2 := 4) rfl rfl e2 e3 ?_
  refine jp_load (pc2 := 5) (n := 1) rfl rfl rfl rfl ?_
  refine jp_getf (pc2 := 8) rfl rfl e2 e4 ?_
  exact jp_icmp (pc2 := 11) rfl rfl K1 K2
theorem b44_11 {r_0 : Nat} {r_1 : Nat} {fs1 : List Value} {v_fs1_0 : Int32} {fs4 : List Value} {P : ipQ} (e2 : h r_1 = some (.inr (2, fs1))) (e3 : fs1[0]? = some (.int v_fs1_0)) (e5 : h r_0 = some (.inr (6, fs4))) (m6 : c ≤ MC) (m7 : s ≤ MS) (hc : call 39 [(.ref r_0), (.int v_fs1_0)] h z 0 0 P) (K : ∀ (o : Option Value) (h2 : HP) (z2 : Nat), P o h2 z2 → ip sc call 44 MC MS Q 20 [some (.ref r_0), some (.ref r_1)] (o.toList ++ [(.int 1)]) h2 z2 c s) : ip sc call 44 MC MS Q 11 [some (.ref r_0), some (.ref r_1)] [] h z c s := by
  refine jp_con (pc2 := 12) (v := .int 1) rfl rfl rfl ?_
  refine jp_load (pc2 := 13) (n := 0) rfl rfl rfl rfl ?_
  refine jp_load (pc2 := 14) (n := 1) rfl rfl rfl rfl ?_
  refine jp_getf (pc2 := 17) rfl rfl e2 e3 ?_
  exact jp_virt0 (pc2 := 20) (As := [(.int v_fs1_0)]) (rest := [(.int 1)]) rfl rfl rfl (Nat.le_of_ble_eq_true rfl) e5 m6 m7 hc rfl K
theorem b44_20 {o_0 : Option Value} {o_1 : Option Value} {sx_0 : Int32} {sx_1 : Int32}  (K : ip sc call 44 MC MS Q 27 [o_0, o_1] [(.int (sx_0 <<< ((sx_1 - 1) &&& 31)))] h z c s) : ip sc call 44 MC MS Q 20 [o_0, o_1] [(.int sx_1), (.int sx_0)] h z c s := by
  refine jp_con (pc2 := 21) (v := .int 1) rfl rfl rfl ?_
  refine jp_bin (pc2 := 22) (v := sx_1 - 1) rfl rfl rfl ?_
  refine jp_bin (pc2 := 23) (v := sx_0 <<< ((sx_1 - 1) &&& 31)) rfl rfl rfl ?_
  refine ip_goto rfl ?_
  exact K
theorem b44_26 {o_0 : Option Value} {o_1 : Option Value}  (K : ip sc call 44 MC MS Q 27 [o_0, o_1] [(.int 1)] h z c s) : ip sc call 44 MC MS Q 26 [o_0, o_1] [] h z c s := by
  refine jp_con (pc2 := 27) (v := .int 1) rfl rfl rfl ?_
  exact K
theorem b44_27 {o_0 : Option Value} {o_1 : Option Value} {sx_0 : Int32} (q1 : Q (some (.int sx_0)) h z)  : ip sc call 44 MC MS Q 27 [o_0, o_1] [(.int sx_0)] h z c s := by
  exact ip_iret (st := []) rfl rfl rfl q1
theorem b45_0 {r_0 : Nat} {r_1 : Nat} {fs1 : List Value} {v_fs1_0 : Int32} {v_fs1_1 : Int32} {v_fs1_2 : Int32} {fs6 : List Value} {P : ipQ} (e2 : h r_1 = some (.inr (2, fs1))) (e3 : fs1[0]? = some (.int v_fs1_0)) (e4 : fs1[1]? = some (.int v_fs1_1)) (e5 : fs1[2]? = some (.int v_fs1_2)) (e7 : h r_0 = some (.inr (6, fs6))) (m8 : c ≤ MC) (m9 : s ≤ MS) (hc : call 38 [(.ref r_0), (.int v_fs1_0), (.int v_fs1_1), (.int v_fs1_2)] h z 0 0 P) (K : ∀ (o : Option Value) (h2 : HP) (z2 : Nat), P o h2 z2 → ip sc call 45 MC MS Q 16 [some (.ref r_0), some (.ref r_1)] (o.toList ++ []) h2 z2 c s) : ip sc call 45 MC MS Q 0 [some (.ref r_0), some (.ref r_1)] [] h z c s := by
  refine jp_load (pc2 := 1) (n := 0) rfl rfl rfl rfl ?_
  refine jp_load (pc2 := 2) (n := 1) rfl rfl rfl rfl ?_
  refine jp_getf (pc2 := 5) rfl rfl e2 e3 ?_
  refine jp_load (pc2 := 6) (n := 1) rfl rfl rfl rfl ?_
  refine jp_getf (pc2 := 9) rfl rfl e2 e4 ?_
  refine jp_load (pc2 := 10) (n := 1) rfl rfl rfl rfl ?_
  refine jp_getf (pc2 := 13) rfl rfl e2 e5 ?_
  exact jp_virt0 (pc2 := 16) (As := [(.int v_fs1_0), (.int v_fs1_1), (.int v_fs1_2)]) (rest := []) rfl rfl rfl (Nat.le_of_ble_eq_true rfl) e7 m8 m9 hc rfl K
theorem b45_16 {r_0 : Nat} {r_1 : Nat} {sx_0 : Int32}  (K1 : sx_0 = 0 → ip sc call 45 MC MS Q 38 [some (.ref r_0), some (.ref r_1)] [] h z c s) (K2 : ¬ (sx_0 = 0) → ip sc call 45 MC MS Q 19 [some (.ref r_0), some (.ref r_1)] [] h z c s) : ip sc call 45 MC MS Q 16 [some (.ref r_0), some (.ref r_1)] [(.int sx_0)] h z c s := by
  exact jp_if0 (pc2 := 19) rfl rfl K1 K2
theorem b45_19 {r_0 : Nat} {r_1 : Nat} {fs1 : List Value} {v_fs1_0 : Int32} {v_fs1_3 : Int32} {v_fs1_4 : Int32} {fs6 : List Value} {P : ipQ} (e2 : h r_1 = some (.inr (2, fs1))) (e3 : fs1[0]? = some (.int v_fs1_0)) (e4 : fs1[3]? = some (.int v_fs1_3)) (e5 : fs1[4]? = some (.int v_fs1_4)) (e7 : h r_0 = some (.inr (6, fs6))) (m8 : c ≤ MC) (m9 : s ≤ MS) (hc : call 38 [(.ref r_0), (.int v_fs1_0), (.int v_fs1_3), (.int v_fs1_4)] h z 0 0 P) (K : ∀ (o : Option Value) (h2 : HP) (z2 : Nat), P o h2 z2 → ip sc call 45 MC MS Q 35 [some (.ref r_0), some (.ref r_1)] (o.toList ++ []) h2 z2 c s) : ip sc call 45 MC MS Q 19 [some (.ref r_0), some (.ref r_1)] [] h z c s := by
  refine jp_load (pc2 := 20) (n := 0) rfl rfl rfl rfl ?_
  refine jp_load (pc2 := 21) (n := 1) rfl rfl rfl rfl ?_
  refine jp_getf (pc2 := 24) rfl rfl e2 e3 ?_
  refine jp_load (pc2 := 25) (n := 1) rfl rfl rfl rfl ?_
  refine jp_getf (pc2 := 28) rfl rfl e2 e4 ?_
  refine jp_load (pc2 := 29) (n := 1) rfl rfl rfl rfl ?_
  refine jp_getf (pc2 := 32) rfl rfl e2 e5 ?_
  exact jp_virt0 (pc2 := 35) (As := [(.int v_fs1_0), (.int v_fs1_3), (.int v_fs1_4)]) (rest := []) rfl rfl rfl (Nat.le_of_ble_eq_true rfl) e7 m8 m9 hc rfl K
theorem b45_35 {r_0 : Nat} {r_1 : Nat} {sx_0 : Int32}  (K1 : ¬ sx_0 = 0 → ip sc call 45 MC MS Q 40 [some (.ref r_0), some (.ref r_1)] [] h z c s) (K2 : ¬ (¬ sx_0 = 0) → ip sc call 45 MC MS Q 38 [some (.ref r_0), some (.ref r_1)] [] h z c s) : ip sc call 45 MC MS Q 35 [some (.ref r_0), some (.ref r_1)] [(.int sx_0)] h z c s := by
  exact jp_if0 (pc2 := 38) rfl rfl K1 K2
theorem b45_38 {o_0 : Option Value} {o_1 : Option Value} (q1 : Q (some (.int 0)) h z)  : ip sc call 45 MC MS Q 38 [o_0, o_1] [] h z c s := by
  refine jp_con (pc2 := 39) (v := .int 0) rfl rfl rfl ?_
  exact ip_iret (st := []) rfl rfl rfl q1
theorem b45_40 {r_0 : Nat} {r_1 : Nat} {fs1 : List Value} {v_fs1_1 : Int32} {v_fs1_3 : Int32} (e2 : h r_1 = some (.inr (2, fs1))) (e3 : fs1[1]? = some (.int v_fs1_1)) (e4 : fs1[3]? = some (.int v_fs1_3)) (K1 : v_fs1_3 < v_fs1_1 → ip sc call 45 MC MS Q 73 [some (.ref r_0), some (.ref r_1)] [] h z c s) (K2 : ¬ (v_fs1_3 < v_fs1_1) → ip sc call 45 MC MS Q 51 [some (.ref r_0), some (.ref r_1)] [] h z c s) : ip sc call 45 MC MS Q 40 [some (.ref r_0), some (.ref r_1)] [] h z c s := by
  refine jp_load (pc2 := 41) (n := 1) rfl rfl rfl rfl ?_
  refine jp_getf (pc2 := 44) rfl rfl e2 e3 ?_
  refine jp_load (pc2 := 45) (n := 1) rfl rfl rfl rfl ?_
  refine jp_getf (pc2 := 48) rfl rfl e2 e4 ?_
  exact jp_icmp (pc2 := 51) rfl rfl K1 K2
theorem b45_51 {r_0 : Nat} {r_1 : Nat} {fs1 : List Value} {v_fs1_1 : Int32} {v_fs1_3 : Int32} (e2 : h r_1 = some (.inr (2, fs1))) (e3 : fs1[1]? = some (.int v_fs1_1)) (e4 : fs1[3]? = some (.int v_fs1_3)) (K1 : ¬ v_fs1_1 = v_fs1_3 → ip sc call 45 MC MS Q 75 [some (.ref r_0), some (.ref r_1)] [] h z c s) (K2 : ¬ (¬ v_fs1_1 = v_fs1_3) → ip sc call 45 MC MS Q 62 [some (.ref r_0), some (.ref r_1)] [] h z c s) : ip sc call 45 MC MS Q 51 [some (.ref r_0), some (.ref r_1)] [] h z c s := by
  refine jp_load (pc2 := 52) (n := 1) rfl rfl rfl rfl ?_
  refine jp_getf (pc2 := 55) rfl rfl e2 e3 ?_
  refine jp_load (pc2 := 56) (n := 1) rfl rfl rfl rfl ?_
  refine jp_getf (pc2 := 59) rfl rfl e2 e4 ?_
  exact jp_icmp (pc2 := 62) rfl rfl K1 K2
theorem b45_62 {r_0 : Nat} {r_1 : Nat} {fs1 : List Value} {v_fs1_2 : Int32} {v_fs1_4 : Int32} (e2 : h r_1 = some (.inr (2, fs1))) (e3 : fs1[2]? = some (.int v_fs1_2)) (e4 : fs1[4]? = some (.int v_fs1_4)) (K1 : v_fs1_2 ≤ v_fs1_4 → ip sc call 45 MC MS Q 75 [some (.ref r_0), some (.ref r_1)] [] h z c s) (K2 : ¬ (v_fs1_2 ≤ v_fs1_4) → ip sc call 45 MC MS Q 73 [some (.ref r_0), some (.ref r_1)] [] h z c s) : ip sc call 45 MC MS Q 62 [some (.ref r_0), some (.ref r_1)] [] h z c s := by
  refine jp_load (pc2 := 63) (n := 1) rfl rfl rfl rfl ?_
  refine jp_getf (pc2 := 66) rfl rfl e2 e3 ?_
  refine jp_load (pc2 := 67) (n := 1) rfl rfl rfl rfl ?_
  refine jp_getf (pc2 := 70) rfl rfl e2 e4 ?_
  exact jp_icmp (pc2 := 73) rfl rfl K1 K2
theorem b45_73 {o_0 : Option Value} {o_1 : Option Value} (q1 : Q (some (.int 0)) h z)  : ip sc call 45 MC MS Q 73 [o_0, o_1] [] h z c s := by
  refine jp_con (pc2 := 74) (v := .int 0) rfl rfl rfl ?_
  exact ip_iret (st := []) rfl rfl rfl q1
theorem b45_75 {r_0 : Nat} {r_1 : Nat} {fs1 : List Value} {v_fs1_5 : Int32} (e2 : h r_1 = some (.inr (2, fs1))) (e3 : fs1[5]? = some (.int v_fs1_5)) (K1 : v_fs1_5 < 0 → ip sc call 45 MC MS Q 94 [some (.ref r_0), some (.ref r_1)] [] h z c s) (K2 : ¬ (v_fs1_5 < 0) → ip sc call 45 MC MS Q 82 [some (.ref r_0), some (.ref r_1)] [] h z c s) : ip sc call 45 MC MS Q 75 [some (.ref r_0), some (.ref r_1)] [] h z c s := by
  refine jp_load (pc2 := 76) (n := 1) rfl rfl rfl rfl ?_
  refine jp_getf (pc2 := 79) rfl rfl e2 e3 ?_
  exact jp_if0 (pc2 := 82) rfl rfl K1 K2
theorem b45_82 {r_0 : Nat} {r_1 : Nat} {fs1 : List Value} {v_fs1_5 : Int32} {fs4 : List Value} {P : ipQ} (e2 : h r_1 = some (.inr (2, fs1))) (e3 : fs1[5]? = some (.int v_fs1_5)) (e5 : h r_0 = some (.inr (6, fs4))) (m6 : c ≤ MC) (m7 : s ≤ MS) (hc : call 44 [(.ref r_0), (.ref r_1)] h z 0 0 P) (K : ∀ (o : Option Value) (h2 : HP) (z2 : Nat), P o h2 z2 → ip sc call 45 MC MS Q 91 [some (.ref r_0), some (.ref r_1)] (o.toList ++ [(.int v_fs1_5)]) h2 z2 c s) : ip sc call 45 MC MS Q 82 [some (.ref r_0), some (.ref r_1)] [] h z c s := by
  refine jp_load (pc2 := 83) (n := 1) rfl rfl rfl rfl ?_
  refine jp_getf (pc2 := 86) rfl rfl e2 e3 ?_
  refine jp_load (pc2 := 87) (n := 0) rfl rfl rfl rfl ?_
  refine jp_load (pc2 := 88) (n := 1) rfl rfl rfl rfl ?_
  exact jp_virt0 (pc2 := 91) (As := [(.ref r_1)]) (rest := [(.int v_fs1_5)]) rfl rfl rfl (Nat.le_of_ble_eq_true rfl) e5 m6 m7 hc rfl K
theorem b45_91 {r_0 : Nat} {r_1 : Nat} {sx_0 : Int32} {sx_1 : Int32}  (K1 : sx_0 < sx_1 → ip sc call 45 MC MS Q 96 [some (.ref r_0), some (.ref r_1)] [] h z c s) (K2 : ¬ (sx_0 < sx_1) → ip sc call 45 MC MS Q 94 [some (.ref r_0), some (.ref r_1)] [] h z c s) : ip sc call 45 MC MS Q 91 [some (.ref r_0), some (.ref r_1)] [(.int sx_1), (.int sx_0)] h z c s := by
  exact jp_icmp (pc2 := 94) rfl rfl K1 K2
theorem b45_94 {o_0 : Option Value} {o_1 : Option Value} (q1 : Q (some (.int 0)) h z)  : ip sc call 45 MC MS Q 94 [o_0, o_1] [] h z c s := by
  refine jp_con (pc2 := 95) (v := .int 0) rfl rfl rfl ?_
  exact ip_iret (st := []) rfl rfl rfl q1
theorem b45_96 {r_0 : Nat} {r_1 : Nat} {fs1 : List Value} {v_fs1_0 : Int32} {v_fs1_1 : Int32} {v_fs1_2 : Int32} {fs6 : List Value} {P : ipQ} (e2 : h r_1 = some (.inr (2, fs1))) (e3 : fs1[0]? = some (.int v_fs1_0)) (e4 : fs1[1]? = some (.int v_fs1_1)) (e5 : fs1[2]? = some (.int v_fs1_2)) (e7 : h r_0 = some (.inr (6, fs6))) (m8 : c ≤ MC) (m9 : s ≤ MS) (hc : call 42 [(.ref r_0), (.int v_fs1_0), (.int v_fs1_1), (.int v_fs1_2)] h z 0 0 P) (K : ∀ (o : Option Value) (h2 : HP) (z2 : Nat), P o h2 z2 → ip sc call 45 MC MS Q 113 [some (.ref r_0), some (.ref r_1)] (o.toList ++ [(.ref r_0)]) h2 z2 c s) : ip sc call 45 MC MS Q 96 [some (.ref r_0), some (.ref r_1)] [] h z c s := by
  refine jp_load (pc2 := 97) (n := 0) rfl rfl rfl rfl ?_
  refine jp_load (pc2 := 98) (n := 0) rfl rfl rfl rfl ?_
  refine jp_load (pc2 := 99) (n := 1) rfl rfl rfl rfl ?_
  refine jp_getf (pc2 := 102) rfl rfl e2 e3 ?_
  refine jp_load (pc2 := 103) (n := 1) rfl rfl rfl rfl ?_
  refine jp_getf (pc2 := 106) rfl rfl e2 e4 ?_
  refine jp_load (pc2 := 107) (n := 1) rfl rfl rfl rfl ?_
  refine jp_getf (pc2 := 110) rfl rfl e2 e5 ?_
  exact jp_virt0 (pc2 := 113) (As := [(.int v_fs1_0), (.int v_fs1_1), (.int v_fs1_2)]) (rest := [(.ref r_0)]) rfl rfl rfl (Nat.le_of_ble_eq_true rfl) e7 m8 m9 hc rfl K
theorem b45_113 {r_0 : Nat} {r_1 : Nat} {sr_0 : Nat} {sx_1 : Int32} {fs1 : List Value} {v_fs1_0 : Int32} {v_fs1_3 : Int32} {v_fs1_4 : Int32} {fs6 : List Value} {P : ipQ} (e2 : h r_1 = some (.inr (2, fs1))) (e3 : fs1[0]? = some (.int v_fs1_0)) (e4 : fs1[3]? = some (.int v_fs1_3)) (e5 : fs1[4]? = some (.int v_fs1_4)) (e7 : h r_0 = some (.inr (6, fs6))) (m8 : c ≤ MC) (m9 : s ≤ MS) (hc : call 42 [(.ref r_0), (.int v_fs1_0), (.int v_fs1_3), (.int v_fs1_4)] h z 0 0 P) (K : ∀ (o : Option Value) (h2 : HP) (z2 : Nat), P o h2 z2 → ip sc call 45 MC MS Q 129 [some (.ref r_0), some (.ref r_1)] (o.toList ++ [(.int sx_1), (.ref sr_0)]) h2 z2 c s) : ip sc call 45 MC MS Q 113 [some (.ref r_0), some (.ref r_1)] [(.int sx_1), (.ref sr_0)] h z c s := by
  refine jp_load (pc2 := 114) (n := 0) rfl rfl rfl rfl ?_
  refine jp_load (pc2 := 115) (n := 1) rfl rfl rfl rfl ?_
  refine jp_getf (pc2 := 118) rfl rfl e2 e3 ?_
  refine jp_load (pc2 := 119) (n := 1) rfl rfl rfl rfl ?_
  refine jp_getf (pc2 := 122) rfl rfl e2 e4 ?_
  refine jp_load (pc2 := 123) (n := 1) rfl rfl rfl rfl ?_
  refine jp_getf (pc2 := 126) rfl rfl e2 e5 ?_
  exact jp_virt0 (pc2 := 129) (As := [(.int v_fs1_0), (.int v_fs1_3), (.int v_fs1_4)]) (rest := [(.int sx_1), (.ref sr_0)]) rfl rfl rfl (Nat.le_of_ble_eq_true rfl) e7 m8 m9 hc rfl K
theorem b45_129 {o_0 : Option Value} {o_1 : Option Value} {sr_0 : Nat} {sx_1 : Int32} {sx_2 : Int32} {fs1 : List Value} {P : ipQ} (e2 : h sr_0 = some (.inr (6, fs1))) (m3 : c ≤ MC) (m4 : s ≤ MS) (hc : call 43 [(.ref sr_0), (.int sx_1), (.int sx_2)] h z 0 0 P) (K : ∀ (o : Option Value) (h2 : HP) (z2 : Nat), P o h2 z2 → ip sc call 45 MC MS Q 132 [o_0, o_1] (o.toList ++ []) h2 z2 c s) : ip sc call 45 MC MS Q 129 [o_0, o_1] [(.int sx_2), (.int sx_1), (.ref sr_0)] h z c s := by
  exact jp_virt0 (pc2 := 132) (As := [(.int sx_1), (.int sx_2)]) (rest := []) rfl rfl rfl (Nat.le_of_ble_eq_true rfl) e2 m3 m4 hc rfl K
theorem b45_132 {o_0 : Option Value} {o_1 : Option Value} {sx_0 : Int32} (t1 : narrow .boolean (.int sx_0) = .int sx_0) (q2 : Q (some (.int sx_0)) h z)  : ip sc call 45 MC MS Q 132 [o_0, o_1] [(.int sx_0)] h z c s := by
  exact ip_iret (st := []) rfl rfl t1 q2
theorem b46_0 {r_0 : Nat} {r_1 : Nat} {fs1 : List Value} {v_fs1_4 : Int32} (e2 : h r_1 = some (.inr (2, fs1))) (e3 : fs1[4]? = some (.int v_fs1_4)) (l4 : fs1.length = 6) (K : ip sc call 46 MC MS Q 10 [some (.ref r_0), some (.ref r_1)] [] (hup h r_1 (.inr (2, (fs1.set 4 (.int (v_fs1_4 + 1)))))) z c s) : ip sc call 46 MC MS Q 0 [some (.ref r_0), some (.ref r_1)] [] h z c s := by
  refine jp_load (pc2 := 1) (n := 1) rfl rfl rfl rfl ?_
  refine jp_dup (pc2 := 2) rfl rfl rfl ?_
  refine jp_getf (pc2 := 5) rfl rfl e2 e3 ?_
  refine jp_con (pc2 := 6) (v := .int 1) rfl rfl rfl ?_
  refine jp_bin (pc2 := 7) (v := v_fs1_4 + 1) rfl rfl rfl ?_
  refine jp_putf (pc2 := 10) rfl rfl e2 (ln_lt l4 (by decide)) ⟨rfl, rfl⟩ ?_
  exact K
theorem b46_10 {r_0 : Nat} {r_1 : Nat} {fs1 : List Value} {v_fs1_0 : Int32} {fs4 : List Value} {v_fs4_7 : Int32} (e2 : h r_1 = some (.inr (2, fs1))) (e3 : fs1[0]? = some (.int v_fs1_0)) (e5 : h r_0 = some (.inr (6, fs4))) (e6 : fs4[7]? = some (.int v_fs4_7)) (K1 : v_fs4_7 ≤ v_fs1_0 → ip sc call 46 MC MS Q 152 [some (.ref r_0), some (.ref r_1)] [] h z c s) (K2 : ¬ (v_fs4_7 ≤ v_fs1_0) → ip sc call 46 MC MS Q 21 [some (.ref r_0), some (.ref r_1)] [] h z c s) : ip sc call 46 MC MS Q 10 [some (.ref r_0), some (.ref r_1)] [] h z c s := by
  refine jp_load (pc2 := 11) (n := 1) rfl rfl rfl rfl ?_
  refine jp_getf (pc2 := 14) rfl rfl e2 e3 ?_
  refine jp_load (pc2 := 15) (n := 0) rfl rfl rfl rfl ?_
  refine jp_getf (pc2 := 18) rfl rfl e5 e6 ?_
  exact jp_icmp (pc2 := 21) rfl rfl K1 K2
theorem b46_21 {r_0 : Nat} {r_1 : Nat} {fs1 : List Value} {v_fs1_1 : Int32} {v_fs1_0 : Int32} {fs5 : List Value} {P : ipQ} (e2 : h r_1 = some (.inr (2, fs1))) (e3 : fs1[1]? = some (.int v_fs1_1)) (e4 : fs1[0]? = some (.int v_fs1_0)) (e6 : h r_0 = some (.inr (6, fs5))) (m7 : c ≤ MC) (m8 : s ≤ MS) (hc : call 39 [(.ref r_0), (.int v_fs1_0)] h z 0 0 P) (K : ∀ (o : Option Value) (h2 : HP) (z2 : Nat), P o h2 z2 → ip sc call 46 MC MS Q 33 [some (.ref r_0), some (.ref r_1)] (o.toList ++ [(.int v_fs1_1)]) h2 z2 c s) : ip sc call 46 MC MS Q 21 [some (.ref r_0), some (.ref r_1)] [] h z c s := by
  refine jp_load (pc2 := 22) (n := 1) rfl rfl rfl rfl ?_
  refine jp_getf (pc2 := 25) rfl rfl e2 e3 ?_
  refine jp_load (pc2 := 26) (n := 0) rfl rfl rfl rfl ?_
  refine jp_load (pc2 := 27) (n := 1) rfl rfl rfl rfl ?_
  refine jp_getf (pc2 := 30) rfl rfl e2 e4 ?_
  exact jp_virt0 (pc2 := 33) (As := [(.int v_fs1_0)]) (rest := [(.int v_fs1_1)]) rfl rfl rfl (Nat.le_of_ble_eq_true rfl) e6 m7 m8 hc rfl K
theorem b46_33 {r_0 : Nat} {r_1 : Nat} {sx_0 : Int32} {sx_1 : Int32}  (K1 : sx_1 ≤ sx_0 → ip sc call 46 MC MS Q 129 [some (.ref r_0), some (.ref r_1)] [] h z c s) (K2 : ¬ (sx_1 ≤ sx_0) → ip sc call 46 MC MS Q 36 [some (.ref r_0), some (.ref r_1)] [] h z c s) : ip sc call 46 MC MS Q 33 [some (.ref r_0), some (.ref r_1)] [(.int sx_1), (.int sx_0)] h z c s := by
  exact jp_icmp (pc2 := 36) rfl rfl K1 K2
theorem b46_36 {r_0 : Nat} {r_1 : Nat} {fs1 : List Value} {v_fs1_2 : Int32} {v_fs1_0 : Int32} {v_fs1_1 : Int32} {fs6 : List Value} {P : ipQ} (e2 : h r_1 = some (.inr (2, fs1))) (e3 : fs1[2]? = some (.int v_fs1_2)) (e4 : fs1[0]? = some (.int v_fs1_0)) (e5 : fs1[1]? = some (.int v_fs1_1)) (e7 : h r_0 = some (.inr (6, fs6))) (m8 : c ≤ MC) (m9 : s ≤ MS) (hc : call 40 [(.ref r_0), (.int v_fs1_0), (.int v_fs1_1)] h z 0 0 P) (K : ∀ (o : Option Value) (h2 : HP) (z2 : Nat), P o h2 z2 → ip sc call 46 MC MS Q 52 [some (.ref r_0), some (.ref r_1)] (o.toList ++ [(.int v_fs1_2)]) h2 z2 c s) : ip sc call 46 MC MS Q 36 [some (.ref r_0), some (.ref r_1)] [] h z c s := by
  refine jp_load (pc2 := 37) (n := 1) rfl rfl rfl rfl ?_
  refine jp_getf (pc2 := 40) rfl rfl e2 e3 ?_
  refine jp_load (pc2 := 41) (n := 0) rfl rfl rfl rfl ?_
  refine jp_load (pc2 := 42) (n := 1) rfl rfl rfl rfl ?_
  refine jp_getf (pc2 := 45) rfl rfl e2 e4 ?_
  refine jp_load (pc2 := 46) (n := 1) rfl rfl rfl rfl ?_
  refine jp_getf (pc2 := 49) rfl rfl e2 e5 ?_
  exact jp_virt0 (pc2 := 52) (As := [(.int v_fs1_0), (.int v_fs1_1)]) (rest := [(.int v_fs1_2)]) rfl rfl rfl (Nat.le_of_ble_eq_true rfl) e7 m8 m9 hc rfl K
theorem b46_52 {r_0 : Nat} {r_1 : Nat} {sx_0 : Int32} {sx_1 : Int32}  (K1 : sx_1 ≤ sx_0 → ip sc call 46 MC MS Q 96 [some (.ref r_0), some (.ref r_1)] [] h z c s) (K2 : ¬ (sx_1 ≤ sx_0) → ip sc call 46 MC MS Q 55 [some (.ref r_0), some (.ref r_1)] [] h z c s) : ip sc call 46 MC MS Q 52 [some (.ref r_0), some (.ref r_1)] [(.int sx_1), (.int sx_0)] h z c s := by
  exact jp_icmp (pc2 := 55) rfl rfl K1 K2
theorem b46_55 {r_0 : Nat} {r_1 : Nat} {fs1 : List Value} {P : ipQ} (e2 : h r_0 = some (.inr (6, fs1))) (m3 : c ≤ MC) (m4 : s ≤ MS) (hc : call 47 [(.ref r_0), (.ref r_1)] h z 0 0 P) (K : ∀ (o : Option Value) (h2 : HP) (z2 : Nat), P o h2 z2 → ip sc call 46 MC MS Q 60 [some (.ref r_0), some (.ref r_1)] (o.toList ++ []) h2 z2 c s) : ip sc call 46 MC MS Q 55 [some (.ref r_0), some (.ref r_1)] [] h z c s := by
  refine jp_load (pc2 := 56) (n := 0) rfl rfl rfl rfl ?_
  refine jp_load (pc2 := 57) (n := 1) rfl rfl rfl rfl ?_
  exact jp_virt0 (pc2 := 60) (As := [(.ref r_1)]) (rest := []) rfl rfl rfl (Nat.le_of_ble_eq_true rfl) e2 m3 m4 hc rfl K
theorem b46_60 {r_0 : Nat} {r_1 : Nat} {sx_0 : Int32}  (K1 : sx_0 = 0 → ip sc call 46 MC MS Q 65 [some (.ref r_0), some (.ref r_1)] [] h z c s) (K2 : ¬ (sx_0 = 0) → ip sc call 46 MC MS Q 63 [some (.ref r_0), some (.ref r_1)] [] h z c s) : ip sc call 46 MC MS Q 60 [some (.ref r_0), some (.ref r_1)] [(.int sx_0)] h z c s := by
  exact jp_if0 (pc2 := 63) rfl rfl K1 K2
theorem b46_63 {o_0 : Option Value} {o_1 : Option Value} (q1 : Q (some (.int 1)) h z)  : ip sc call 46 MC MS Q 63 [o_0, o_1] [] h z c s := by
  refine jp_con (pc2 := 64) (v := .int 1) rfl rfl rfl ?_
  exact ip_iret (st := []) rfl rfl rfl q1
theorem b46_65 {r_0 : Nat} {r_1 : Nat} {fs1 : List Value} {v_fs1_1 : Int32} {v_fs1_2 : Int32} (e2 : h r_1 = some (.inr (2, fs1))) (e3 : fs1[1]? = some (.int v_fs1_1)) (l4 : fs1.length = 6) (e5 : fs1[2]? = some (.int v_fs1_2)) (K : ip sc call 46 MC MS Q 36 [some (.ref r_0), some (.ref r_1)] [] (hup (hup (hup h r_1 (.inr (2, (fs1.set 3 (.int v_fs1_1))))) r_1 (.inr (2, ((fs1.set 3 (.int v_fs1_1)).set 4 (.int (v_fs1_2 + 1)))))) r_1 (.inr (2, (((fs1.set 3 (.int v_fs1_1)).set 4 (.int (v_fs1_2 + 1))).set 2 (.int (v_fs1_2 + 1)))))) z c s) : ip sc call 46 MC MS Q 65 [some (.ref r_0), some (.ref r_1)] [] h z c s := by
  refine jp_load (pc2 := 66) (n := 1) rfl rfl rfl rfl ?_
  refine jp_load (pc2 := 67) (n := 1) rfl rfl rfl rfl ?_
  refine jp_getf (pc2 := 70) rfl rfl e2 e3 ?_
  refine jp_putf (pc2 := 73) rfl rfl e2 (ln_lt l4 (by decide)) ⟨rfl, rfl⟩ ?_
  refine jp_load (pc2 := 74) (n := 1) rfl rfl rfl rfl ?_
  refine jp_load (pc2 := 75) (n := 1) rfl rfl rfl rfl ?_
  refine jp_getf (pc2 := 78) rfl rfl hup_eq (gs_ne (by decide) e5) ?_
  refine jp_con (pc2 := 79) (v := .int 1) rfl rfl rfl ?_
  refine jp_bin (pc2 := 80) (v := v_fs1_2 + 1) rfl rfl rfl ?_
  refine jp_putf (pc2 := 83) rfl rfl hup_eq (ls_lt (ln_lt l4 (by decide))) ⟨rfl, rfl⟩ ?_
  refine jp_load (pc2 := 84) (n := 1) rfl rfl rfl rfl ?_
  refine jp_dup (pc2 := 85) rfl rfl rfl ?_
  refine jp_getf (pc2 := 88) rfl rfl hup_eq (gs_ne (by decide) (gs_ne (by decide) e5)) ?_
  refine jp_con (pc2 := 89) (v := .int 1) rfl rfl rfl ?_
  refine jp_bin (pc2 := 90) (v := v_fs1_2 + 1) rfl rfl rfl ?_
  refine jp_putf (pc2 := 93) rfl rfl hup_eq (ls_lt (ls_lt (ln_lt l4 (by decide)))) ⟨rfl, rfl⟩ ?_
  refine ip_goto rfl ?_
  exact K
theorem b46_96 {r_0 : Nat} {r_1 : Nat} {fs1 : List Value} {v_fs1_1 : Int32} (e2 : h r_1 = some (.inr (2, fs1))) (l3 : fs1.length = 6) (e4 : fs1[1]? = some (.int v_fs1_1)) (K : ip sc call 46 MC MS Q 21 [some (.ref r_0), some (.ref r_1)] [] (hup (hup (hup (hup h r_1 (.inr (2, (fs1.set 2 (.int 0))))) r_1 (.inr (2, ((fs1.set 2 (.int 0)).set 3 (.int (v_fs1_1 + 1)))))) r_1 (.inr (2, (((fs1.set 2 (.int 0)).set 3 (.int (v_fs1_1 + 1))).set 4 (.int 0))))) r_1 (.inr (2, ((((fs1.set 2 (.int 0)).set 3 (.int (v_fs1_1 + 1))).set 4 (.int 0)).set 1 (.int (v_fs1_1 + 1)))))) z c s) : ip sc call 46 MC MS Q 96 [some (.ref r_0), some (.ref r_1)] [] h z c s := by
  refine jp_load (pc2 := 97) (n := 1) rfl rfl rfl rfl ?_
  refine jp_con (pc2 := 98) (v := .int 0) rfl rfl rfl ?_
  refine jp_putf (pc2 := 101) rfl rfl e2 (ln_lt l3 (by decide)) ⟨rfl, rfl⟩ ?_
  refine jp_load (pc2 := 102) (n := 1) rfl rfl rfl rfl ?_
  refine jp_load (pc2 := 103) (n := 1) rfl rfl rfl rfl ?_
  refine jp_getf (pc2 := 106) rfl rfl hup_eq (gs_ne (by decide) e4) ?_
  refine jp_con (pc2 := 107) (v := .int 1) rfl rfl rfl ?_
  refine jp_bin (pc2 := 108) (v := v_fs1_1 + 1) rfl rfl rfl ?_
  refine jp_putf (pc2 := 111) rfl rfl hup_eq (ls_lt (ln_lt l3 (by decide))) ⟨rfl, rfl⟩ ?_
  refine jp_load (pc2 := 112) (n := 1) rfl rfl rfl rfl ?_
  refine jp_con (pc2 := 113) (v := .int 0) rfl rfl rfl ?_
  refine jp_putf (pc2 := 116) rfl rfl hup_eq (ls_lt (ls_lt (ln_lt l3 (by decide)))) ⟨rfl, rfl⟩ ?_
  refine jp_load (pc2 := 117) (n := 1) rfl rfl rfl rfl ?_
  refine jp_dup (pc2 := 118) rfl rfl rfl ?_
  refine jp_getf (pc2 := 121) rfl rfl hup_eq (gs_ne (by decide) (gs_ne (by decide) (gs_ne (by decide) e4))) ?_
  refine jp_con (pc2 := 122) (v := .int 1) rfl rfl rfl ?_
  refine jp_bin (pc2 := 123) (v := v_fs1_1 + 1) rfl rfl rfl ?_
  refine jp_putf (pc2 := 126) rfl rfl hup_eq (ls_lt (ls_lt (ls_lt (ln_lt l3 (by decide))))) ⟨rfl, rfl⟩ ?_
  refine ip_goto rfl ?_
  exact K
theorem b46_129 {r_0 : Nat} {r_1 : Nat} {fs1 : List Value} {v_fs1_0 : Int32} (e2 : h r_1 = some (.inr (2, fs1))) (l3 : fs1.length = 6) (e4 : fs1[0]? = some (.int v_fs1_0)) (K : ip sc call 46 MC MS Q 10 [some (.ref r_0), some (.ref r_1)] [] (hup (hup (hup h r_1 (.inr (2, (fs1.set 1 (.int 0))))) r_1 (.inr (2, ((fs1.set 1 (.int 0)).set 3 (.int 0))))) r_1 (.inr (2, (((fs1.set 1 (.int 0)).set 3 (.int 0)).set 0 (.int (v_fs1_0 + 1)))))) z c s) : ip sc call 46 MC MS Q 129 [some (.ref r_0), some (.ref r_1)] [] h z c s := by
  refine jp_load (pc2 := 130) (n := 1) rfl rfl rfl rfl ?_
  refine jp_con (pc2 := 131) (v := .int 0) rfl rfl rfl ?_
  refine jp_putf (pc2 := 134) rfl rfl e2 (ln_lt l3 (by decide)) ⟨rfl, rfl⟩ ?_
  refine jp_load (pc2 := 135) (n := 1) rfl rfl rfl rfl ?_
  refine jp_con (pc2 := 136) (v := .int 0) rfl rfl rfl ?_
  refine jp_putf (pc2 := 139) rfl rfl hup_eq (ls_lt (ln_lt l3 (by decide))) ⟨rfl, rfl⟩ ?_
  refine jp_load (pc2 := 140) (n := 1) rfl rfl rfl rfl ?_
  refine jp_dup (pc2 := 141) rfl rfl rfl ?_
  refine jp_getf (pc2 := 144) rfl rfl hup_eq (gs_ne (by decide) (gs_ne (by decide) e4)) ?_
  refine jp_con (pc2 := 145) (v := .int 1) rfl rfl rfl ?_
  refine jp_bin (pc2 := 146) (v := v_fs1_0 + 1) rfl rfl rfl ?_
  refine jp_putf (pc2 := 149) rfl rfl hup_eq (ls_lt (ls_lt (ln_lt l3 (by decide)))) ⟨rfl, rfl⟩ ?_
  refine ip_goto rfl ?_
  exact K
theorem b46_152 {o_0 : Option Value} {o_1 : Option Value} (q1 : Q (some (.int 0)) h z)  : ip sc call 46 MC MS Q 152 [o_0, o_1] [] h z c s := by
  refine jp_con (pc2 := 153) (v := .int 0) rfl rfl rfl ?_
  exact ip_iret (st := []) rfl rfl rfl q1
theorem b47_0 {r_0 : Nat} {r_1 : Nat} {o_2 : Option Value} {fs1 : List Value} {v_fs1_0 : Int32} {v_fs1_1 : Int32} {v_fs1_2 : Int32} {fs6 : List Value} {P : ipQ} (e2 : h r_1 = some (.inr (2, fs1))) (e3 : fs1[0]? = some (.int v_fs1_0)) (e4 : fs1[1]? = some (.int v_fs1_1)) (e5 : fs1[2]? = some (.int v_fs1_2)) (e7 : h r_0 = some (.inr (6, fs6))) (m8 : c ≤ MC) (m9 : s ≤ MS) (hc : call 42 [(.ref r_0), (.int v_fs1_0), (.int v_fs1_1), (.int v_fs1_2)] h z 0 0 P) (K : ∀ (o : Option Value) (h2 : HP) (z2 : Nat), P o h2 z2 → ip sc call 47 MC MS Q 16 [some (.ref r_0), some (.ref r_1), o_2] (o.toList ++ []) h2 z2 c s) : ip sc call 47 MC MS Q 0 [some (.ref r_0), some (.ref r_1), o_2] [] h z c s := by
  refine jp_load (pc2 := 1) (n := 0) rfl rfl rfl rfl ?_
  refine jp_load (pc2 := 2) (n := 1) rfl rfl rfl rfl ?_
  refine jp_getf (pc2 := 5) rfl rfl e2 e3 ?_
  refine jp_load (pc2 := 6) (n := 1) rfl rfl rfl rfl ?_
  refine jp_getf (pc2 := 9) rfl rfl e2 e4 ?_
  refine jp_load (pc2 := 10) (n := 1) rfl rfl rfl rfl ?_
  refine jp_getf (pc2 := 13) rfl rfl e2 e5 ?_
  exact jp_virt0 (pc2 := 16) (As := [(.int v_fs1_0), (.int v_fs1_1), (.int v_fs1_2)]) (rest := []) rfl rfl rfl (Nat.le_of_ble_eq_true rfl) e7 m8 m9 hc rfl K
theorem b47_16 {r_0 : Nat} {r_1 : Nat} {o_2 : Option Value} {sx_0 : Int32} {fs1 : List Value} {q_fs1_4 : Nat} {n4 : Nat} {f5 : Nat → Int32} (e2 : h r_0 = some (.inr (6, fs1))) (e3 : fs1[4]? = some (.ref q_fs1_4)) (e6 : h q_fs1_4 = some (.inl (0, n4, .inl f5))) (b7 : vp_in sx_0 n4) (K1 : ¬ (f5 sx_0.toNatClampNeg) = 0 → ip sc call 47 MC MS Q 28 [some (.ref r_0), some (.ref r_1), some (.int sx_0)] [] h z c s) (K2 : ¬ (¬ (f5 sx_0.toNatClampNeg) = 0) → ip sc call 47 MC MS Q 26 [some (.ref r_0), some (.ref r_1), some (.int sx_0)] [] h z c s) : ip sc call 47 MC MS Q 16 [some (.ref r_0), some (.ref r_1), o_2] [(.int sx_0)] h z c s := by
  refine jp_store (pc2 := 17) (n := 2) rfl rfl ⟨rfl, rfl⟩ rfl (Nat.le_of_ble_eq_true rfl) ?_
  refine jp_load (pc2 := 18) (n := 0) rfl rfl rfl rfl ?_
  refine jp_getf (pc2 := 21) rfl rfl e2 e3 ?_
  refine jp_load (pc2 := 22) (n := 2) rfl rfl rfl rfl ?_
  refine jp_iald (pc2 := 23) rfl rfl e6 b7 ?_
  exact jp_if0 (pc2 := 26) rfl rfl K1 K2
theorem b47_26 {o_0 : Option Value} {o_1 : Option Value} {o_2 : Option Value} (q1 : Q (some (.int 0)) h z)  : ip sc call 47 MC MS Q 26 [o_0, o_1, o_2] [] h z c s := by
  refine jp_con (pc2 := 27) (v := .int 0) rfl rfl rfl ?_
  exact ip_iret (st := []) rfl rfl rfl q1
theorem b47_28 {r_0 : Nat} {r_1 : Nat} {x_2 : Int32} {fs1 : List Value} {v_fs1_3 : Int32} {v_fs1_0 : Int32} {fs5 : List Value} {P : ipQ} (e2 : h r_1 = some (.inr (2, fs1))) (e3 : fs1[3]? = some (.int v_fs1_3)) (e4 : fs1[0]? = some (.int v_fs1_0)) (e6 : h r_0 = some (.inr (6, fs5))) (m7 : c ≤ MC) (m8 : s ≤ MS) (hc : call 39 [(.ref r_0), (.int v_fs1_0)] h z 0 0 P) (K : ∀ (o : Option Value) (h2 : HP) (z2 : Nat), P o h2 z2 → ip sc call 47 MC MS Q 40 [some (.ref r_0), some (.ref r_1), some (.int x_2)] (o.toList ++ [(.int v_fs1_3)]) h2 z2 c s) : ip sc call 47 MC MS Q 28 [some (.ref r_0), some (.ref r_1), some (.int x_2)] [] h z c s := by
  refine jp_load (pc2 := 29) (n := 1) rfl rfl rfl rfl ?_
  refine jp_getf (pc2 := 32) rfl rfl e2 e3 ?_
  refine jp_load (pc2 := 33) (n := 0) rfl rfl rfl rfl ?_
  refine jp_load (pc2 := 34) (n := 1) rfl rfl rfl rfl ?_
  refine jp_getf (pc2 := 37) rfl rfl e2 e4 ?_
  exact jp_virt0 (pc2 := 40) (As := [(.int v_fs1_0)]) (rest := [(.int v_fs1_3)]) rfl rfl rfl (Nat.le_of_ble_eq_true rfl) e6 m7 m8 hc rfl K
theorem b47_40 {r_0 : Nat} {r_1 : Nat} {x_2 : Int32} {sx_0 : Int32} {sx_1 : Int32}  (K1 : sx_1 ≤ sx_0 → ip sc call 47 MC MS Q 119 [some (.ref r_0), some (.ref r_1), some (.int x_2)] [] h z c s) (K2 : ¬ (sx_1 ≤ sx_0) → ip sc call 47 MC MS Q 43 [some (.ref r_0), some (.ref r_1), some (.int x_2)] [] h z c s) : ip sc call 47 MC MS Q 40 [some (.ref r_0), some (.ref r_1), some (.int x_2)] [(.int sx_1), (.int sx_0)] h z c s := by
  exact jp_icmp (pc2 := 43) rfl rfl K1 K2
theorem b47_43 {r_0 : Nat} {r_1 : Nat} {x_2 : Int32} {fs1 : List Value} {v_fs1_4 : Int32} {v_fs1_0 : Int32} {v_fs1_3 : Int32} {fs6 : List Value} {P : ipQ} (e2 : h r_1 = some (.inr (2, fs1))) (e3 : fs1[4]? = some (.int v_fs1_4)) (e4 : fs1[0]? = some (.int v_fs1_0)) (e5 : fs1[3]? = some (.int v_fs1_3)) (e7 : h r_0 = some (.inr (6, fs6))) (m8 : c ≤ MC) (m9 : s ≤ MS) (hc : call 40 [(.ref r_0), (.int v_fs1_0), (.int v_fs1_3)] h z 0 0 P) (K : ∀ (o : Option Value) (h2 : HP) (z2 : Nat), P o h2 z2 → ip sc call 47 MC MS Q 59 [some (.ref r_0), some (.ref r_1), some (.int x_2)] (o.toList ++ [(.int v_fs1_4)]) h2 z2 c s) : ip sc call 47 MC MS Q 43 [some (.ref r_0), some (.ref r_1), some (.int x_2)] [] h z c s := by
  refine jp_load (pc2 := 44) (n := 1) rfl rfl rfl rfl ?_
  refine jp_getf (pc2 := 47) rfl rfl e2 e3 ?_
  refine jp_load (pc2 := 48) (n := 0) rfl rfl rfl rfl ?_
  refine jp_load (pc2 := 49) (n := 1) rfl rfl rfl rfl ?_
  refine jp_getf (pc2 := 52) rfl rfl e2 e4 ?_
  refine jp_load (pc2 := 53) (n := 1) rfl rfl rfl rfl ?_
  refine jp_getf (pc2 := 56) rfl rfl e2 e5 ?_
  exact jp_virt0 (pc2 := 59) (As := [(.int v_fs1_0), (.int v_fs1_3)]) (rest := [(.int v_fs1_4)]) rfl rfl rfl (Nat.le_of_ble_eq_true rfl) e7 m8 m9 hc rfl K
theorem b47_59 {r_0 : Nat} {r_1 : Nat} {x_2 : Int32} {sx_0 : Int32} {sx_1 : Int32}  (K1 : sx_1 ≤ sx_0 → ip sc call 47 MC MS Q 101 [some (.ref r_0), some (.ref r_1), some (.int x_2)] [] h z c s) (K2 : ¬ (sx_1 ≤ sx_0) → ip sc call 47 MC MS Q 62 [some (.ref r_0), some (.ref r_1), some (.int x_2)] [] h z c s) : ip sc call 47 MC MS Q 59 [some (.ref r_0), some (.ref r_1), some (.int x_2)] [(.int sx_1), (.int sx_0)] h z c s := by
  exact jp_icmp (pc2 := 62) rfl rfl K1 K2
theorem b47_62 {r_0 : Nat} {r_1 : Nat} {x_2 : Int32} {fs1 : List Value} {v_fs1_0 : Int32} {v_fs1_3 : Int32} {v_fs1_4 : Int32} {fs6 : List Value} {P : ipQ} (e2 : h r_1 = some (.inr (2, fs1))) (e3 : fs1[0]? = some (.int v_fs1_0)) (e4 : fs1[3]? = some (.int v_fs1_3)) (e5 : fs1[4]? = some (.int v_fs1_4)) (e7 : h r_0 = some (.inr (6, fs6))) (m8 : c ≤ MC) (m9 : s ≤ MS) (hc : call 42 [(.ref r_0), (.int v_fs1_0), (.int v_fs1_3), (.int v_fs1_4)] h z 0 0 P) (K : ∀ (o : Option Value) (h2 : HP) (z2 : Nat), P o h2 z2 → ip sc call 47 MC MS Q 80 [some (.ref r_0), some (.ref r_1), some (.int x_2)] (o.toList ++ [(.int x_2), (.ref r_0)]) h2 z2 c s) : ip sc call 47 MC MS Q 62 [some (.ref r_0), some (.ref r_1), some (.int x_2)] [] h z c s := by
  refine jp_load (pc2 := 63) (n := 0) rfl rfl rfl rfl ?_
  refine jp_load (pc2 := 64) (n := 2) rfl rfl rfl rfl ?_
  refine jp_load (pc2 := 65) (n := 0) rfl rfl rfl rfl ?_
  refine jp_load (pc2 := 66) (n := 1) rfl rfl rfl rfl ?_
  refine jp_getf (pc2 := 69) rfl rfl e2 e3 ?_
  refine jp_load (pc2 := 70) (n := 1) rfl rfl rfl rfl ?_
  refine jp_getf (pc2 := 73) rfl rfl e2 e4 ?_
  refine jp_load (pc2 := 74) (n := 1) rfl rfl rfl rfl ?_
  refine jp_getf (pc2 := 77) rfl rfl e2 e5 ?_
  exact jp_virt0 (pc2 := 80) (As := [(.int v_fs1_0), (.int v_fs1_3), (.int v_fs1_4)]) (rest := [(.int x_2), (.ref r_0)]) rfl rfl rfl (Nat.le_of_ble_eq_true rfl) e7 m8 m9 hc rfl K
theorem b47_80 {r_0 : Nat} {r_1 : Nat} {x_2 : Int32} {sr_0 : Nat} {sx_1 : Int32} {sx_2 : Int32} {fs1 : List Value} {P : ipQ} (e2 : h sr_0 = some (.inr (6, fs1))) (m3 : c ≤ MC) (m4 : s ≤ MS) (hc : call 43 [(.ref sr_0), (.int sx_1), (.int sx_2)] h z 0 0 P) (K : ∀ (o : Option Value) (h2 : HP) (z2 : Nat), P o h2 z2 → ip sc call 47 MC MS Q 83 [some (.ref r_0), some (.ref r_1), some (.int x_2)] (o.toList ++ []) h2 z2 c s) : ip sc call 47 MC MS Q 80 [some (.ref r_0), some (.ref r_1), some (.int x_2)] [(.int sx_2), (.int sx_1), (.ref sr_0)] h z c s := by
  exact jp_virt0 (pc2 := 83) (As := [(.int sx_1), (.int sx_2)]) (rest := []) rfl rfl rfl (Nat.le_of_ble_eq_true rfl) e2 m3 m4 hc rfl K
theorem b47_83 {r_0 : Nat} {r_1 : Nat} {x_2 : Int32} {sx_0 : Int32}  (K1 : sx_0 = 0 → ip sc call 47 MC MS Q 88 [some (.ref r_0), some (.ref r_1), some (.int x_2)] [] h z c s) (K2 : ¬ (sx_0 = 0) → ip sc call 47 MC MS Q 86 [some (.ref r_0), some (.ref r_1), some (.int x_2)] [] h z c s) : ip sc call 47 MC MS Q 83 [some (.ref r_0), some (.ref r_1), some (.int x_2)] [(.int sx_0)] h z c s := by
  exact jp_if0 (pc2 := 86) rfl rfl K1 K2
theorem b47_86 {o_0 : Option Value} {o_1 : Option Value} {o_2 : Option Value} (q1 : Q (some (.int 1)) h z)  : ip sc call 47 MC MS Q 86 [o_0, o_1, o_2] [] h z c s := by
  refine jp_con (pc2 := 87) (v := .int 1) rfl rfl rfl ?_
  exact ip_iret (st := []) rfl rfl rfl q1
theorem b47_88 {r_0 : Nat} {r_1 : Nat} {x_2 : Int32} {fs1 : List Value} {v_fs1_4 : Int32} (e2 : h r_1 = some (.inr (2, fs1))) (e3 : fs1[4]? = some (.int v_fs1_4)) (l4 : fs1.length = 6) (K : ip sc call 47 MC MS Q 43 [some (.ref r_0), some (.ref r_1), some (.int x_2)] [] (hup h r_1 (.inr (2, (fs1.set 4 (.int (v_fs1_4 + 1)))))) z c s) : ip sc call 47 MC MS Q 88 [some (.ref r_0), some (.ref r_1), some (.int x_2)] [] h z c s := by
  refine jp_load (pc2 := 89) (n := 1) rfl rfl rfl rfl ?_
  refine jp_dup (pc2 := 90) rfl rfl rfl ?_
  refine jp_getf (pc2 := 93) rfl rfl e2 e3 ?_
  refine jp_con (pc2 := 94) (v := .int 1) rfl rfl rfl ?_
  refine jp_bin (pc2 := 95) (v := v_fs1_4 + 1) rfl rfl rfl ?_
  refine jp_putf (pc2 := 98) rfl rfl e2 (ln_lt l4 (by decide)) ⟨rfl, rfl⟩ ?_
  refine ip_goto rfl ?_
  exact K
theorem b47_101 {r_0 : Nat} {r_1 : Nat} {x_2 : Int32} {fs1 : List Value} {v_fs1_3 : Int32} (e2 : h r_1 = some (.inr (2, fs1))) (l3 : fs1.length = 6) (e4 : fs1[3]? = some (.int v_fs1_3)) (K : ip sc call 47 MC MS Q 28 [some (.ref r_0), some (.ref r_1), some (.int x_2)] [] (hup (hup h r_1 (.inr (2, (fs1.set 4 (.int 0))))) r_1 (.inr (2, ((fs1.set 4 (.int 0)).set 3 (.int (v_fs1_3 + 1)))))) z c s) : ip sc call 47 MC MS Q 101 [some (.ref r_0), some (.ref r_1), some (.int x_2)] [] h z c s := by
  refine jp_load (pc2 := 102) (n := 1) rfl rfl rfl rfl ?_
  refine jp_con (pc2 := 103) (v := .int 0) rfl rfl rfl ?_
  refine jp_putf (pc2 := 106) rfl rfl e2 (ln_lt l3 (by decide)) ⟨rfl, rfl⟩ ?_
  refine jp_load (pc2 := 107) (n := 1) rfl rfl rfl rfl ?_
  refine jp_dup (pc2 := 108) rfl rfl rfl ?_
  refine jp_getf (pc2 := 111) rfl rfl hup_eq (gs_ne (by decide) e4) ?_
  refine jp_con (pc2 := 112) (v := .int 1) rfl rfl rfl ?_
  refine jp_bin (pc2 := 113) (v := v_fs1_3 + 1) rfl rfl rfl ?_
  refine jp_putf (pc2 := 116) rfl rfl hup_eq (ls_lt (ln_lt l3 (by decide))) ⟨rfl, rfl⟩ ?_
  refine ip_goto rfl ?_
  exact K
theorem b47_119 {o_0 : Option Value} {o_1 : Option Value} {o_2 : Option Value} (q1 : Q (some (.int 0)) h z)  : ip sc call 47 MC MS Q 119 [o_0, o_1, o_2] [] h z c s := by
  refine jp_con (pc2 := 120) (v := .int 0) rfl rfl rfl ?_
  exact ip_iret (st := []) rfl rfl rfl q1
theorem b48_0 {r_0 : Nat} {x_1 : Int32} {r_2 : Nat} {o_3 : Option Value} {o_4 : Option Value} {o_5 : Option Value}  (K1 : (0 : Int32) ≤ x_1 → ip sc call 48 MC MS Q 6 [some (.ref r_0), some (.int x_1), some (.ref r_2), o_3, o_4, o_5] [] h z c s) (K2 : ¬ ((0 : Int32) ≤ x_1) → ip sc call 48 MC MS Q 4 [some (.ref r_0), some (.int x_1), some (.ref r_2), o_3, o_4, o_5] [] h z c s) : ip sc call 48 MC MS Q 0 [some (.ref r_0), some (.int x_1), some (.ref r_2), o_3, o_4, o_5] [] h z c s := by
  refine jp_load (pc2 := 1) (n := 1) rfl rfl rfl rfl ?_
  exact jp_if0 (pc2 := 4) rfl rfl K1 K2
theorem b48_4 {o_0 : Option Value} {o_1 : Option Value} {o_2 : Option Value} {o_3 : Option Value} {o_4 : Option Value} {o_5 : Option Value} (q1 : Q (some (.int 0)) h z)  : ip sc call 48 MC MS Q 4 [o_0, o_1, o_2, o_3, o_4, o_5] [] h z c s := by
  refine jp_con (pc2 := 5) (v := .int 0) rfl rfl rfl ?_
  exact ip_iret (st := []) rfl rfl rfl q1
theorem b48_6 {r_0 : Nat} {x_1 : Int32} {r_2 : Nat} {o_3 : Option Value} {o_4 : Option Value} {o_5 : Option Value} {fs1 : List Value} {P : ipQ} (e2 : h r_2 = some (.inr (2, fs1))) (m3 : c ≤ MC) (m4 : s ≤ MS) (hc : call 11 [(.ref r_2)] h z 0 0 P) (K : ∀ (o : Option Value) (h2 : HP) (z2 : Nat), P o h2 z2 → ip sc call 48 MC MS Q 12 [some (.ref r_0), some (.int x_1), some (.ref r_2), some (.int x_1), o_4, o_5] (o.toList ++ []) h2 z2 c s) : ip sc call 48 MC MS Q 6 [some (.ref r_0), some (.int x_1), some (.ref r_2), o_3, o_4, o_5] [] h z c s := by
  refine jp_load (pc2 := 7) (n := 1) rfl rfl rfl rfl ?_
  refine jp_store (pc2 := 8) (n := 3) rfl rfl ⟨rfl, rfl⟩ rfl (Nat.le_of_ble_eq_true rfl) ?_
  refine jp_load (pc2 := 9) (n := 2) rfl rfl rfl rfl ?_
  exact jp_virt0 (pc2 := 12) (As := []) (rest := []) rfl rfl rfl (Nat.le_of_ble_eq_true rfl) e2 m3 m4 hc rfl K
theorem b48_12 {r_0 : Nat} {o_1 : Option Value} {r_2 : Nat} {x_3 : Int32} {o_4 : Option Value} {o_5 : Option Value}  (K : ip sc call 48 MC MS Q 15 [some (.ref r_0), o_1, some (.ref r_2), some (.int x_3), some (.int 0), o_5] [] h z c s) : ip sc call 48 MC MS Q 12 [some (.ref r_0), o_1, some (.ref r_2), some (.int x_3), o_4, o_5] [] h z c s := by
  refine jp_con (pc2 := 13) (v := .int 0) rfl rfl rfl ?_
  refine jp_store (pc2 := 15) (n := 4) rfl rfl ⟨rfl, rfl⟩ rfl (Nat.le_of_ble_eq_true rfl) ?_
  exact K
theorem b48_15 {r_0 : Nat} {o_1 : Option Value} {r_2 : Nat} {x_3 : Int32} {x_4 : Int32} {o_5 : Option Value}  (K1 : (1000000 : Int32) ≤ x_4 → ip sc call 48 MC MS Q 61 [some (.ref r_0), o_1, some (.ref r_2), some (.int x_3), some (.int x_4), o_5] [] h z c s) (K2 : ¬ ((1000000 : Int32) ≤ x_4) → ip sc call 48 MC MS Q 22 [some (.ref r_0), o_1, some (.ref r_2), some (.int x_3), some (.int x_4), o_5] [] h z c s) : ip sc call 48 MC MS Q 15 [some (.ref r_0), o_1, some (.ref r_2), some (.int x_3), some (.int x_4), o_5] [] h z c s := by
  refine jp_load (pc2 := 17) (n := 4) rfl rfl rfl rfl ?_
  refine jp_con (pc2 := 19) (v := .int 1000000) rfl rfl rfl ?_
  exact jp_icmp (pc2 := 22) rfl rfl K1 K2
theorem b48_22 {r_0 : Nat} {o_1 : Option Value} {r_2 : Nat} {x_3 : Int32} {x_4 : Int32} {o_5 : Option Value} {fs1 : List Value} {P : ipQ} (e2 : h r_0 = some (.inr (6, fs1))) (m3 : c ≤ MC) (m4 : s ≤ MS) (hc : call 46 [(.ref r_0), (.ref r_2)] h z 0 0 P) (K : ∀ (o : Option Value) (h2 : HP) (z2 : Nat), P o h2 z2 → ip sc call 48 MC MS Q 27 [some (.ref r_0), o_1, some (.ref r_2), some (.int x_3), some (.int x_4), o_5] (o.toList ++ []) h2 z2 c s) : ip sc call 48 MC MS Q 22 [some (.ref r_0), o_1, some (.ref r_2), some (.int x_3), some (.int x_4), o_5] [] h z c s := by
  refine jp_load (pc2 := 23) (n := 0) rfl rfl rfl rfl ?_
  refine jp_load (pc2 := 24) (n := 2) rfl rfl rfl rfl ?_
  exact jp_virt0 (pc2 := 27) (As := [(.ref r_2)]) (rest := []) rfl rfl rfl (Nat.le_of_ble_eq_true rfl) e2 m3 m4 hc rfl K
theorem b48_27 {r_0 : Nat} {o_1 : Option Value} {r_2 : Nat} {x_3 : Int32} {x_4 : Int32} {o_5 : Option Value} {sx_0 : Int32}  (K1 : sx_0 = 0 → ip sc call 48 MC MS Q 61 [some (.ref r_0), o_1, some (.ref r_2), some (.int x_3), some (.int x_4), o_5] [] h z c s) (K2 : ¬ (sx_0 = 0) → ip sc call 48 MC MS Q 30 [some (.ref r_0), o_1, some (.ref r_2), some (.int x_3), some (.int x_4), o_5] [] h z c s) : ip sc call 48 MC MS Q 27 [some (.ref r_0), o_1, some (.ref r_2), some (.int x_3), some (.int x_4), o_5] [(.int sx_0)] h z c s := by
  exact jp_if0 (pc2 := 30) rfl rfl K1 K2
theorem b48_30 {r_0 : Nat} {o_1 : Option Value} {r_2 : Nat} {x_3 : Int32} {x_4 : Int32} {o_5 : Option Value} {fs1 : List Value} {P : ipQ} (e2 : h r_0 = some (.inr (6, fs1))) (m3 : c ≤ MC) (m4 : s ≤ MS) (hc : call 44 [(.ref r_0), (.ref r_2)] h z 0 0 P) (K : ∀ (o : Option Value) (h2 : HP) (z2 : Nat), P o h2 z2 → ip sc call 48 MC MS Q 35 [some (.ref r_0), o_1, some (.ref r_2), some (.int x_3), some (.int x_4), o_5] (o.toList ++ []) h2 z2 c s) : ip sc call 48 MC MS Q 30 [some (.ref r_0), o_1, some (.ref r_2), some (.int x_3), some (.int x_4), o_5] [] h z c s := by
  refine jp_load (pc2 := 31) (n := 0) rfl rfl rfl rfl ?_
  refine jp_load (pc2 := 32) (n := 2) rfl rfl rfl rfl ?_
  exact jp_virt0 (pc2 := 35) (As := [(.ref r_2)]) (rest := []) rfl rfl rfl (Nat.le_of_ble_eq_true rfl) e2 m3 m4 hc rfl K
theorem b48_35 {r_0 : Nat} {o_1 : Option Value} {r_2 : Nat} {x_3 : Int32} {x_4 : Int32} {o_5 : Option Value} {sx_0 : Int32}  (K1 : sx_0 ≤ x_3 → ip sc call 48 MC MS Q 50 [some (.ref r_0), o_1, some (.ref r_2), some (.int x_3), some (.int x_4), some (.int sx_0)] [] h z c s) (K2 : ¬ (sx_0 ≤ x_3) → ip sc call 48 MC MS Q 43 [some (.ref r_0), o_1, some (.ref r_2), some (.int x_3), some (.int x_4), some (.int sx_0)] [] h z c s) : ip sc call 48 MC MS Q 35 [some (.ref r_0), o_1, some (.ref r_2), some (.int x_3), some (.int x_4), o_5] [(.int sx_0)] h z c s := by
  refine jp_store (pc2 := 37) (n := 5) rfl rfl ⟨rfl, rfl⟩ rfl (Nat.le_of_ble_eq_true rfl) ?_
  refine jp_load (pc2 := 38) (n := 3) rfl rfl rfl rfl ?_
  refine jp_load (pc2 := 40) (n := 5) rfl rfl rfl rfl ?_
  exact jp_icmp (pc2 := 43) rfl rfl K1 K2
theorem b48_43 {o_0 : Option Value} {o_1 : Option Value} {r_2 : Nat} {x_3 : Int32} {o_4 : Option Value} {o_5 : Option Value} {fs1 : List Value} (e2 : h r_2 = some (.inr (2, fs1))) (l3 : fs1.length = 6) (q4 : Q (some (.int 1)) (hup h r_2 (.inr (2, (fs1.set 5 (.int x_3))))) z)  : ip sc call 48 MC MS Q 43 [o_0, o_1, some (.ref r_2), some (.int x_3), o_4, o_5] [] h z c s := by
  refine jp_load (pc2 := 44) (n := 2) rfl rfl rfl rfl ?_
  refine jp_load (pc2 := 45) (n := 3) rfl rfl rfl rfl ?_
  refine jp_putf (pc2 := 48) rfl rfl e2 (ln_lt l3 (by decide)) ⟨rfl, rfl⟩ ?_
  refine jp_con (pc2 := 49) (v := .int 1) rfl rfl rfl ?_
  exact ip_iret (st := []) rfl rfl rfl q4
theorem b48_50 {r_0 : Nat} {o_1 : Option Value} {r_2 : Nat} {x_3 : Int32} {x_4 : Int32} {x_5 : Int32}  (K : ip sc call 48 MC MS Q 15 [some (.ref r_0), o_1, some (.ref r_2), some (.int (x_3 - x_5)), some (.int (x_4 + 1)), some (.int x_5)] [] h z c s) : ip sc call 48 MC MS Q 50 [some (.ref r_0), o_1, some (.ref r_2), some (.int x_3), some (.int x_4), some (.int x_5)] [] h z c s := by
  refine jp_load (pc2 := 51) (n := 3) rfl rfl rfl rfl ?_
  refine jp_load (pc2 := 53) (n := 5) rfl rfl rfl rfl ?_
  refine jp_bin (pc2 := 54) (v := x_3 - x_5) rfl rfl rfl ?_
  refine jp_store (pc2 := 55) (n := 3) rfl rfl ⟨rfl, rfl⟩ rfl (Nat.le_of_ble_eq_true rfl) ?_
  refine jp_iinc (pc2 := 58) (n := 4) (v := x_4 + 1) rfl rfl rfl rfl rfl ?_
  refine ip_goto rfl ?_
  exact K
theorem b48_61 {o_0 : Option Value} {o_1 : Option Value} {o_2 : Option Value} {o_3 : Option Value} {o_4 : Option Value} {o_5 : Option Value} (q1 : Q (some (.int 0)) h z)  : ip sc call 48 MC MS Q 61 [o_0, o_1, o_2, o_3, o_4, o_5] [] h z c s := by
  refine jp_con (pc2 := 62) (v := .int 0) rfl rfl rfl ?_
  exact ip_iret (st := []) rfl rfl rfl q1
theorem b49_0 {r_0 : Nat} {fs1 : List Value} (e2 : h r_0 = some (.inr (6, fs1))) (l3 : fs1.length = 11) (q4 : Q none (hup (hup (hup (hup (hup (hup h r_0 (.inr (6, (fs1.set 5 (.int 0))))) r_0 (.inr (6, ((fs1.set 5 (.int 0)).set 6 (.int 0))))) r_0 (.inr (6, (((fs1.set 5 (.int 0)).set 6 (.int 0)).set 7 (.int 0))))) r_0 (.inr (6, ((((fs1.set 5 (.int 0)).set 6 (.int 0)).set 7 (.int 0)).set 8 (.int 0))))) r_0 (.inr (6, (((((fs1.set 5 (.int 0)).set 6 (.int 0)).set 7 (.int 0)).set 8 (.int 0)).set 9 (.int 0))))) r_0 (.inr (6, ((((((fs1.set 5 (.int 0)).set 6 (.int 0)).set 7 (.int 0)).set 8 (.int 0)).set 9 (.int 0)).set 10 (.int 0))))) z)  : ip sc call 49 MC MS Q 0 [some (.ref r_0)] [] h z c s := by
  refine jp_load (pc2 := 1) (n := 0) rfl rfl rfl rfl ?_
  refine jp_con (pc2 := 2) (v := .int 0) rfl rfl rfl ?_
  refine jp_putf (pc2 := 5) rfl rfl e2 (ln_lt l3 (by decide)) ⟨rfl, rfl⟩ ?_
  refine jp_load (pc2 := 6) (n := 0) rfl rfl rfl rfl ?_
  refine jp_con (pc2 := 7) (v := .int 0) rfl rfl rfl ?_
  refine jp_putf (pc2 := 10) rfl rfl hup_eq (ls_lt (ln_lt l3 (by decide))) ⟨rfl, rfl⟩ ?_
  refine jp_load (pc2 := 11) (n := 0) rfl rfl rfl rfl ?_
  refine jp_con (pc2 := 12) (v := .int 0) rfl rfl rfl ?_
  refine jp_putf (pc2 := 15) rfl rfl hup_eq (ls_lt (ls_lt (ln_lt l3 (by decide)))) ⟨rfl, rfl⟩ ?_
  refine jp_load (pc2 := 16) (n := 0) rfl rfl rfl rfl ?_
  refine jp_con (pc2 := 17) (v := .int 0) rfl rfl rfl ?_
  refine jp_putf (pc2 := 20) rfl rfl hup_eq (ls_lt (ls_lt (ls_lt (ln_lt l3 (by decide))))) ⟨rfl, rfl⟩ ?_
  refine jp_load (pc2 := 21) (n := 0) rfl rfl rfl rfl ?_
  refine jp_con (pc2 := 22) (v := .int 0) rfl rfl rfl ?_
  refine jp_putf (pc2 := 25) rfl rfl hup_eq (ls_lt (ls_lt (ls_lt (ls_lt (ln_lt l3 (by decide)))))) ⟨rfl, rfl⟩ ?_
  refine jp_load (pc2 := 26) (n := 0) rfl rfl rfl rfl ?_
  refine jp_con (pc2 := 27) (v := .int 0) rfl rfl rfl ?_
  refine jp_putf (pc2 := 30) rfl rfl hup_eq (ls_lt (ls_lt (ls_lt (ls_lt (ls_lt (ln_lt l3 (by decide))))))) ⟨rfl, rfl⟩ ?_
  exact ip_vret (st := []) rfl rfl q4
theorem b50_0 {r_0 : Nat} {x_1 : Int32} {fs1 : List Value} {v_fs1_8 : Int32} {q_fs1_4 : Nat} {n5 : Nat} {f6 : Nat → Int32} (e2 : h r_0 = some (.inr (6, fs1))) (e3 : fs1[8]? = some (.int v_fs1_8)) (e4 : fs1[4]? = some (.ref q_fs1_4)) (e7 : h q_fs1_4 = some (.inl (0, n5, .inl f6))) (K1 : (Int32.ofNat n5) ≤ v_fs1_8 → ip sc call 50 MC MS Q 42 [some (.ref r_0), some (.int x_1)] [] h z c s) (K2 : ¬ ((Int32.ofNat n5) ≤ v_fs1_8) → ip sc call 50 MC MS Q 12 [some (.ref r_0), some (.int x_1)] [] h z c s) : ip sc call 50 MC MS Q 0 [some (.ref r_0), some (.int x_1)] [] h z c s := by
  refine jp_load (pc2 := 1) (n := 0) rfl rfl rfl rfl ?_
  refine jp_getf (pc2 := 4) rfl rfl e2 e3 ?_
  refine jp_load (pc2 := 5) (n := 0) rfl rfl rfl rfl ?_
  refine jp_getf (pc2 := 8) rfl rfl e2 e4 ?_
  refine jp_alen (pc2 := 9) rfl rfl e7 (by decide) ?_
  exact jp_icmp (pc2 := 12) rfl rfl K1 K2
theorem b50_12 {r_0 : Nat} {x_1 : Int32} {fs1 : List Value} {q_fs1_4 : Nat} {v_fs1_8 : Int32} {n5 : Nat} {f6 : Nat → Int32} {v_fs1_10 : Int32} (e2 : h r_0 = some (.inr (6, fs1))) (e3 : fs1[4]? = some (.ref q_fs1_4)) (e4 : fs1[8]? = some (.int v_fs1_8)) (e7 : h q_fs1_4 = some (.inl (0, n5, .inl f6))) (b8 : vp_in v_fs1_8 n5) (n9 : r_0 ≠ q_fs1_4) (l10 : fs1.length = 11) (e11 : fs1[10]? = some (.int v_fs1_10)) (K : ip sc call 50 MC MS Q 42 [some (.ref r_0), some (.int x_1)] [] (hup (hup (hup h q_fs1_4 (.inl (0, n5, .inl (upd f6 v_fs1_8.toNatClampNeg x_1)))) r_0 (.inr (6, (fs1.set 8 (.int (v_fs1_8 + 1)))))) r_0 (.inr (6, ((fs1.set 8 (.int (v_fs1_8 + 1))).set 10 (.int (v_fs1_10 + x_1)))))) z c s) : ip sc call 50 MC MS Q 12 [some (.ref r_0), some (.int x_1)] [] h z c s := by
  refine jp_load (pc2 := 13) (n := 0) rfl rfl rfl rfl ?_
  refine jp_getf (pc2 := 16) rfl rfl e2 e3 ?_
  refine jp_load (pc2 := 17) (n := 0) rfl rfl rfl rfl ?_
  refine jp_getf (pc2 := 20) rfl rfl e2 e4 ?_
  refine jp_load (pc2 := 21) (n := 1) rfl rfl rfl rfl ?_
  refine jp_iast (pc2 := 22) rfl rfl e7 b8 ?_
  refine jp_load (pc2 := 23) (n := 0) rfl rfl rfl rfl ?_
  refine jp_dup (pc2 := 24) rfl rfl rfl ?_
  refine jp_getf (pc2 := 27) rfl rfl (hup_ne n9 e2) e4 ?_
  refine jp_con (pc2 := 28) (v := .int 1) rfl rfl rfl ?_
  refine jp_bin (pc2 := 29) (v := v_fs1_8 + 1) rfl rfl rfl ?_
  refine jp_putf (pc2 := 32) rfl rfl (hup_ne n9 e2) (ln_lt l10 (by decide)) ⟨rfl, rfl⟩ ?_
  refine jp_load (pc2 := 33) (n := 0) rfl rfl rfl rfl ?_
  refine jp_dup (pc2 := 34) rfl rfl rfl ?_
  refine jp_getf (pc2 := 37) rfl rfl hup_eq (gs_ne (by decide) e11) ?_
  refine jp_load (pc2 := 38) (n := 1) rfl rfl rfl rfl ?_
  refine jp_bin (pc2 := 39) (v := v_fs1_10 + x_1) rfl rfl rfl ?_
  refine jp_putf (pc2 := 42) rfl rfl hup_eq (ls_lt (ln_lt l10 (by decide))) ⟨rfl, rfl⟩ ?_
  exact K
theorem b50_42 {o_0 : Option Value} {o_1 : Option Value} (q1 : Q none h z)  : ip sc call 50 MC MS Q 42 [o_0, o_1] [] h z c s := by
  exact ip_vret (st := []) rfl rfl q1
theorem b51_0 {r_0 : Nat} {x_1 : Int32} {o_2 : Option Value} {fs1 : List Value} {P : ipQ} (e2 : h r_0 = some (.inr (6, fs1))) (m3 : c ≤ MC) (m4 : s ≤ MS) (hc : call 49 [(.ref r_0)] h z 0 0 P) (K : ∀ (o : Option Value) (h2 : HP) (z2 : Nat), P o h2 z2 → ip sc call 51 MC MS Q 4 [some (.ref r_0), some (.int x_1), o_2] (o.toList ++ []) h2 z2 c s) : ip sc call 51 MC MS Q 0 [some (.ref r_0), some (.int x_1), o_2] [] h z c s := by
  refine jp_load (pc2 := 1) (n := 0) rfl rfl rfl rfl ?_
  exact jp_virt0 (pc2 := 4) (As := []) (rest := []) rfl rfl rfl (Nat.le_of_ble_eq_true rfl) e2 m3 m4 hc rfl K
theorem b51_4 {r_0 : Nat} {x_1 : Int32} {o_2 : Option Value}  (K : ip sc call 51 MC MS Q 6 [some (.ref r_0), some (.int x_1), some (.int 0)] [] h z c s) : ip sc call 51 MC MS Q 4 [some (.ref r_0), some (.int x_1), o_2] [] h z c s := by
  refine jp_con (pc2 := 5) (v := .int 0) rfl rfl rfl ?_
  refine jp_store (pc2 := 6) (n := 2) rfl rfl ⟨rfl, rfl⟩ rfl (Nat.le_of_ble_eq_true rfl) ?_
  exact K
theorem b51_6 {r_0 : Nat} {x_1 : Int32} {x_2 : Int32}  (K1 : x_1 ≤ x_2 → ip sc call 51 MC MS Q 31 [some (.ref r_0), some (.int x_1), some (.int x_2)] [] h z c s) (K2 : ¬ (x_1 ≤ x_2) → ip sc call 51 MC MS Q 11 [some (.ref r_0), some (.int x_1), some (.int x_2)] [] h z c s) : ip sc call 51 MC MS Q 6 [some (.ref r_0), some (.int x_1), some (.int x_2)] [] h z c s := by
  refine jp_load (pc2 := 7) (n := 2) rfl rfl rfl rfl ?_
  refine jp_load (pc2 := 8) (n := 1) rfl rfl rfl rfl ?_
  exact jp_icmp (pc2 := 11) rfl rfl K1 K2
theorem b51_11 {r_0 : Nat} {x_1 : Int32} {x_2 : Int32} {fs1 : List Value} {P : ipQ} (e2 : h r_0 = some (.inr (6, fs1))) (m3 : c ≤ MC) (m4 : s ≤ MS) (hc : call 50 [(.ref r_0), (.int 3)] h z 0 0 P) (K : ∀ (o : Option Value) (h2 : HP) (z2 : Nat), P o h2 z2 → ip sc call 51 MC MS Q 16 [some (.ref r_0), some (.int x_1), some (.int x_2)] (o.toList ++ []) h2 z2 c s) : ip sc call 51 MC MS Q 11 [some (.ref r_0), some (.int x_1), some (.int x_2)] [] h z c s := by
  refine jp_load (pc2 := 12) (n := 0) rfl rfl rfl rfl ?_
  refine jp_con (pc2 := 13) (v := .int 3) rfl rfl rfl ?_
  exact jp_virt0 (pc2 := 16) (As := [(.int 3)]) (rest := []) rfl rfl rfl (Nat.le_of_ble_eq_true rfl) e2 m3 m4 hc rfl K
theorem b51_16 {r_0 : Nat} {x_1 : Int32} {x_2 : Int32} {fs1 : List Value} {P : ipQ} (e2 : h r_0 = some (.inr (6, fs1))) (m3 : c ≤ MC) (m4 : s ≤ MS) (hc : call 61 [(.ref r_0), (.int x_2)] h z 0 0 P) (K : ∀ (o : Option Value) (h2 : HP) (z2 : Nat), P o h2 z2 → ip sc call 51 MC MS Q 21 [some (.ref r_0), some (.int x_1), some (.int x_2)] (o.toList ++ []) h2 z2 c s) : ip sc call 51 MC MS Q 16 [some (.ref r_0), some (.int x_1), some (.int x_2)] [] h z c s := by
  refine jp_load (pc2 := 17) (n := 0) rfl rfl rfl rfl ?_
  refine jp_load (pc2 := 18) (n := 2) rfl rfl rfl rfl ?_
  exact jp_virt0 (pc2 := 21) (As := [(.int x_2)]) (rest := []) rfl rfl rfl (Nat.le_of_ble_eq_true rfl) e2 m3 m4 hc rfl K
theorem b51_21 {r_0 : Nat} {x_1 : Int32} {x_2 : Int32} {fs1 : List Value} {P : ipQ} (e2 : h r_0 = some (.inr (6, fs1))) (m3 : c ≤ MC) (m4 : s ≤ MS) (hc : call 62 [(.ref r_0)] h z 0 0 P) (K : ∀ (o : Option Value) (h2 : HP) (z2 : Nat), P o h2 z2 → ip sc call 51 MC MS Q 25 [some (.ref r_0), some (.int x_1), some (.int x_2)] (o.toList ++ []) h2 z2 c s) : ip sc call 51 MC MS Q 21 [some (.ref r_0), some (.int x_1), some (.int x_2)] [] h z c s := by
  refine jp_load (pc2 := 22) (n := 0) rfl rfl rfl rfl ?_
  exact jp_virt0 (pc2 := 25) (As := []) (rest := []) rfl rfl rfl (Nat.le_of_ble_eq_true rfl) e2 m3 m4 hc rfl K
theorem b51_25 {r_0 : Nat} {x_1 : Int32} {x_2 : Int32}  (K : ip sc call 51 MC MS Q 6 [some (.ref r_0), some (.int x_1), some (.int (x_2 + 1))] [] h z c s) : ip sc call 51 MC MS Q 25 [some (.ref r_0), some (.int x_1), some (.int x_2)] [] h z c s := by
  refine jp_iinc (pc2 := 28) (n := 2) (v := x_2 + 1) rfl rfl rfl rfl rfl ?_
  refine ip_goto rfl ?_
  exact K
theorem b51_31 {r_0 : Nat} {x_1 : Int32} {o_2 : Option Value} {fs1 : List Value} {P : ipQ} (e2 : h r_0 = some (.inr (6, fs1))) (m3 : c ≤ MC) (m4 : s ≤ MS) (hc : call 63 [(.ref r_0)] h z 0 0 P) (K : ∀ (o : Option Value) (h2 : HP) (z2 : Nat), P o h2 z2 → ip sc call 51 MC MS Q 35 [some (.ref r_0), some (.int x_1), o_2] (o.toList ++ []) h2 z2 c s) : ip sc call 51 MC MS Q 31 [some (.ref r_0), some (.int x_1), o_2] [] h z c s := by
  refine jp_load (pc2 := 32) (n := 0) rfl rfl rfl rfl ?_
  exact jp_virt0 (pc2 := 35) (As := []) (rest := []) rfl rfl rfl (Nat.le_of_ble_eq_true rfl) e2 m3 m4 hc rfl K
theorem b51_35 {r_0 : Nat} {x_1 : Int32} {o_2 : Option Value} {fs1 : List Value} (e2 : h r_0 = some (.inr (6, fs1))) (l3 : fs1.length = 11) (q4 : Q none (hup h r_0 (.inr (6, (fs1.set 9 (.int x_1))))) z)  : ip sc call 51 MC MS Q 35 [some (.ref r_0), some (.int x_1), o_2] [] h z c s := by
  refine jp_load (pc2 := 36) (n := 0) rfl rfl rfl rfl ?_
  refine jp_load (pc2 := 37) (n := 1) rfl rfl rfl rfl ?_
  refine jp_putf (pc2 := 40) rfl rfl e2 (ln_lt l3 (by decide)) ⟨rfl, rfl⟩ ?_
  exact ip_vret (st := []) rfl rfl q4
theorem b52_0 {r_0 : Nat} {r_1 : Nat} {fs1 : List Value} {P : ipQ} (e2 : h r_0 = some (.inr (6, fs1))) (m3 : c ≤ MC) (m4 : s ≤ MS) (hc : call 49 [(.ref r_0)] h z 0 0 P) (K : ∀ (o : Option Value) (h2 : HP) (z2 : Nat), P o h2 z2 → ip sc call 52 MC MS Q 4 [some (.ref r_0), some (.ref r_1)] (o.toList ++ []) h2 z2 c s) : ip sc call 52 MC MS Q 0 [some (.ref r_0), some (.ref r_1)] [] h z c s := by
  refine jp_load (pc2 := 1) (n := 0) rfl rfl rfl rfl ?_
  exact jp_virt0 (pc2 := 4) (As := []) (rest := []) rfl rfl rfl (Nat.le_of_ble_eq_true rfl) e2 m3 m4 hc rfl K
-- b52_4 by hand: arraycopy: by hand
theorem b53_0 {r_0 : Nat} {r_1 : Nat} {o_2 : Option Value} {fs1 : List Value} {P : ipQ} (e2 : h r_0 = some (.inr (6, fs1))) (m3 : c ≤ MC) (m4 : s ≤ MS) (hc : call 52 [(.ref r_0), (.ref r_1)] h z 0 0 P) (K : ∀ (o : Option Value) (h2 : HP) (z2 : Nat), P o h2 z2 → ip sc call 53 MC MS Q 5 [some (.ref r_0), some (.ref r_1), o_2] (o.toList ++ []) h2 z2 c s) : ip sc call 53 MC MS Q 0 [some (.ref r_0), some (.ref r_1), o_2] [] h z c s := by
  refine jp_load (pc2 := 1) (n := 0) rfl rfl rfl rfl ?_
  refine jp_load (pc2 := 2) (n := 1) rfl rfl rfl rfl ?_
  exact jp_virt0 (pc2 := 5) (As := [(.ref r_1)]) (rest := []) rfl rfl rfl (Nat.le_of_ble_eq_true rfl) e2 m3 m4 hc rfl K
theorem b53_5 {r_0 : Nat} {r_1 : Nat} {o_2 : Option Value}  (K : ip sc call 53 MC MS Q 7 [some (.ref r_0), some (.ref r_1), some (.int 0)] [] h z c s) : ip sc call 53 MC MS Q 5 [some (.ref r_0), some (.ref r_1), o_2] [] h z c s := by
  refine jp_con (pc2 := 6) (v := .int 0) rfl rfl rfl ?_
  refine jp_store (pc2 := 7) (n := 2) rfl rfl ⟨rfl, rfl⟩ rfl (Nat.le_of_ble_eq_true rfl) ?_
  exact K
theorem b53_7 {r_0 : Nat} {r_1 : Nat} {x_2 : Int32} {fs1 : List Value} {v_fs1_7 : Int32} (e2 : h r_1 = some (.inr (6, fs1))) (e3 : fs1[7]? = some (.int v_fs1_7)) (K1 : v_fs1_7 ≤ x_2 → ip sc call 53 MC MS Q 27 [some (.ref r_0), some (.ref r_1), some (.int x_2)] [] h z c s) (K2 : ¬ (v_fs1_7 ≤ x_2) → ip sc call 53 MC MS Q 15 [some (.ref r_0), some (.ref r_1), some (.int x_2)] [] h z c s) : ip sc call 53 MC MS Q 7 [some (.ref r_0), some (.ref r_1), some (.int x_2)] [] h z c s := by
  refine jp_load (pc2 := 8) (n := 2) rfl rfl rfl rfl ?_
  refine jp_load (pc2 := 9) (n := 1) rfl rfl rfl rfl ?_
  refine jp_getf (pc2 := 12) rfl rfl e2 e3 ?_
  exact jp_icmp (pc2 := 15) rfl rfl K1 K2
theorem b53_15 {r_0 : Nat} {r_1 : Nat} {x_2 : Int32} {fs1 : List Value} {P : ipQ} (e2 : h r_0 = some (.inr (6, fs1))) (m3 : c ≤ MC) (m4 : s ≤ MS) (hc : call 56 [(.ref r_0), (.ref r_1), (.int x_2)] h z 0 0 P) (K : ∀ (o : Option Value) (h2 : HP) (z2 : Nat), P o h2 z2 → ip sc call 53 MC MS Q 21 [some (.ref r_0), some (.ref r_1), some (.int x_2)] (o.toList ++ []) h2 z2 c s) : ip sc call 53 MC MS Q 15 [some (.ref r_0), some (.ref r_1), some (.int x_2)] [] h z c s := by
  refine jp_load (pc2 := 16) (n := 0) rfl rfl rfl rfl ?_
  refine jp_load (pc2 := 17) (n := 1) rfl rfl rfl rfl ?_
  refine jp_load (pc2 := 18) (n := 2) rfl rfl rfl rfl ?_
  exact jp_virt0 (pc2 := 21) (As := [(.ref r_1), (.int x_2)]) (rest := []) rfl rfl rfl (Nat.le_of_ble_eq_true rfl) e2 m3 m4 hc rfl K
theorem b53_21 {r_0 : Nat} {r_1 : Nat} {x_2 : Int32}  (K : ip sc call 53 MC MS Q 7 [some (.ref r_0), some (.ref r_1), some (.int (x_2 + 1))] [] h z c s) : ip sc call 53 MC MS Q 21 [some (.ref r_0), some (.ref r_1), some (.int x_2)] [] h z c s := by
  refine jp_iinc (pc2 := 24) (n := 2) (v := x_2 + 1) rfl rfl rfl rfl rfl ?_
  refine ip_goto rfl ?_
  exact K
theorem b53_27 {o_0 : Option Value} {o_1 : Option Value} {o_2 : Option Value} (q1 : Q none h z)  : ip sc call 53 MC MS Q 27 [o_0, o_1, o_2] [] h z c s := by
  exact ip_vret (st := []) rfl rfl q1
theorem b54_0 {r_0 : Nat} {r_1 : Nat} {r_2 : Nat} {o_3 : Option Value} {fs1 : List Value} {P : ipQ} (e2 : h r_0 = some (.inr (6, fs1))) (m3 : c ≤ MC) (m4 : s ≤ MS) (hc : call 52 [(.ref r_0), (.ref r_1)] h z 0 0 P) (K : ∀ (o : Option Value) (h2 : HP) (z2 : Nat), P o h2 z2 → ip sc call 54 MC MS Q 5 [some (.ref r_0), some (.ref r_1), some (.ref r_2), o_3] (o.toList ++ []) h2 z2 c s) : ip sc call 54 MC MS Q 0 [some (.ref r_0), some (.ref r_1), some (.ref r_2), o_3] [] h z c s := by
  refine jp_load (pc2 := 1) (n := 0) rfl rfl rfl rfl ?_
  refine jp_load (pc2 := 2) (n := 1) rfl rfl rfl rfl ?_
  exact jp_virt0 (pc2 := 5) (As := [(.ref r_1)]) (rest := []) rfl rfl rfl (Nat.le_of_ble_eq_true rfl) e2 m3 m4 hc rfl K
theorem b54_5 {r_0 : Nat} {r_1 : Nat} {r_2 : Nat} {o_3 : Option Value} {fs1 : List Value} {v_fs1_0 : Int32} {v_fs1_1 : Int32} {v_fs1_2 : Int32} {fs6 : List Value} {P : ipQ} (e2 : h r_2 = some (.inr (2, fs1))) (e3 : fs1[0]? = some (.int v_fs1_0)) (e4 : fs1[1]? = some (.int v_fs1_1)) (e5 : fs1[2]? = some (.int v_fs1_2)) (e7 : h r_1 = some (.inr (6, fs6))) (m8 : c ≤ MC) (m9 : s ≤ MS) (hc : call 42 [(.ref r_1), (.int v_fs1_0), (.int v_fs1_1), (.int v_fs1_2)] h z 0 0 P) (K : ∀ (o : Option Value) (h2 : HP) (z2 : Nat), P o h2 z2 → ip sc call 54 MC MS Q 22 [some (.ref r_0), some (.ref r_1), some (.ref r_2), o_3] (o.toList ++ [(.ref r_0)]) h2 z2 c s) : ip sc call 54 MC MS Q 5 [some (.ref r_0), some (.ref r_1), some (.ref r_2), o_3] [] h z c s := by
  refine jp_load (pc2 := 6) (n := 0) rfl rfl rfl rfl ?_
  refine jp_load (pc2 := 7) (n := 1) rfl rfl rfl rfl ?_
  refine jp_load (pc2 := 8) (n := 2) rfl rfl rfl rfl ?_
  refine jp_getf (pc2 := 11) rfl rfl e2 e3 ?_
  refine jp_load (pc2 := 12) (n := 2) rfl rfl rfl rfl ?_
  refine jp_getf (pc2 := 15) rfl rfl e2 e4 ?_
  refine jp_load (pc2 := 16) (n := 2) rfl rfl rfl rfl ?_
  refine jp_getf (pc2 := 19) rfl rfl e2 e5 ?_
  exact jp_virt0 (pc2 := 22) (As := [(.int v_fs1_0), (.int v_fs1_1), (.int v_fs1_2)]) (rest := [(.ref r_0)]) rfl rfl rfl (Nat.le_of_ble_eq_true rfl) e7 m8 m9 hc rfl K
theorem b54_22 {r_0 : Nat} {r_1 : Nat} {r_2 : Nat} {o_3 : Option Value} {sr_0 : Nat} {sx_1 : Int32} {fs1 : List Value} {P : ipQ} (e2 : h sr_0 = some (.inr (6, fs1))) (m3 : c ≤ MC) (m4 : s ≤ MS) (hc : call 55 [(.ref sr_0), (.int sx_1)] h z 0 0 P) (K : ∀ (o : Option Value) (h2 : HP) (z2 : Nat), P o h2 z2 → ip sc call 54 MC MS Q 25 [some (.ref r_0), some (.ref r_1), some (.ref r_2), o_3] (o.toList ++ []) h2 z2 c s) : ip sc call 54 MC MS Q 22 [some (.ref r_0), some (.ref r_1), some (.ref r_2), o_3] [(.int sx_1), (.ref sr_0)] h z c s := by
  exact jp_virt0 (pc2 := 25) (As := [(.int sx_1)]) (rest := []) rfl rfl rfl (Nat.le_of_ble_eq_true rfl) e2 m3 m4 hc rfl K
theorem b54_25 {r_0 : Nat} {r_1 : Nat} {r_2 : Nat} {o_3 : Option Value} {fs1 : List Value} {v_fs1_0 : Int32} {v_fs1_3 : Int32} {v_fs1_4 : Int32} {fs6 : List Value} {P : ipQ} (e2 : h r_2 = some (.inr (2, fs1))) (e3 : fs1[0]? = some (.int v_fs1_0)) (e4 : fs1[3]? = some (.int v_fs1_3)) (e5 : fs1[4]? = some (.int v_fs1_4)) (e7 : h r_1 = some (.inr (6, fs6))) (m8 : c ≤ MC) (m9 : s ≤ MS) (hc : call 42 [(.ref r_1), (.int v_fs1_0), (.int v_fs1_3), (.int v_fs1_4)] h z 0 0 P) (K : ∀ (o : Option Value) (h2 : HP) (z2 : Nat), P o h2 z2 → ip sc call 54 MC MS Q 42 [some (.ref r_0), some (.ref r_1), some (.ref r_2), o_3] (o.toList ++ [(.ref r_0)]) h2 z2 c s) : ip sc call 54 MC MS Q 25 [some (.ref r_0), some (.ref r_1), some (.ref r_2), o_3] [] h z c s := by
  refine jp_load (pc2 := 26) (n := 0) rfl rfl rfl rfl ?_
  refine jp_load (pc2 := 27) (n := 1) rfl rfl rfl rfl ?_
  refine jp_load (pc2 := 28) (n := 2) rfl rfl rfl rfl ?_
  refine jp_getf (pc2 := 31) rfl rfl e2 e3 ?_
  refine jp_load (pc2 := 32) (n := 2) rfl rfl rfl rfl ?_
  refine jp_getf (pc2 := 35) rfl rfl e2 e4 ?_
  refine jp_load (pc2 := 36) (n := 2) rfl rfl rfl rfl ?_
  refine jp_getf (pc2 := 39) rfl rfl e2 e5 ?_
  exact jp_virt0 (pc2 := 42) (As := [(.int v_fs1_0), (.int v_fs1_3), (.int v_fs1_4)]) (rest := [(.ref r_0)]) rfl rfl rfl (Nat.le_of_ble_eq_true rfl) e7 m8 m9 hc rfl K
theorem b54_42 {r_0 : Nat} {r_1 : Nat} {r_2 : Nat} {o_3 : Option Value} {sr_0 : Nat} {sx_1 : Int32} {fs1 : List Value} {P : ipQ} (e2 : h sr_0 = some (.inr (6, fs1))) (m3 : c ≤ MC) (m4 : s ≤ MS) (hc : call 55 [(.ref sr_0), (.int sx_1)] h z 0 0 P) (K : ∀ (o : Option Value) (h2 : HP) (z2 : Nat), P o h2 z2 → ip sc call 54 MC MS Q 45 [some (.ref r_0), some (.ref r_1), some (.ref r_2), o_3] (o.toList ++ []) h2 z2 c s) : ip sc call 54 MC MS Q 42 [some (.ref r_0), some (.ref r_1), some (.ref r_2), o_3] [(.int sx_1), (.ref sr_0)] h z c s := by
  exact jp_virt0 (pc2 := 45) (As := [(.int sx_1)]) (rest := []) rfl rfl rfl (Nat.le_of_ble_eq_true rfl) e2 m3 m4 hc rfl K
theorem b54_45 {r_0 : Nat} {r_1 : Nat} {r_2 : Nat} {o_3 : Option Value} {fs1 : List Value} {P : ipQ} (e2 : h r_0 = some (.inr (6, fs1))) (m3 : c ≤ MC) (m4 : s ≤ MS) (hc : call 50 [(.ref r_0), (.int 1)] h z 0 0 P) (K : ∀ (o : Option Value) (h2 : HP) (z2 : Nat), P o h2 z2 → ip sc call 54 MC MS Q 50 [some (.ref r_0), some (.ref r_1), some (.ref r_2), o_3] (o.toList ++ []) h2 z2 c s) : ip sc call 54 MC MS Q 45 [some (.ref r_0), some (.ref r_1), some (.ref r_2), o_3] [] h z c s := by
  refine jp_load (pc2 := 46) (n := 0) rfl rfl rfl rfl ?_
  refine jp_con (pc2 := 47) (v := .int 1) rfl rfl rfl ?_
  exact jp_virt0 (pc2 := 50) (As := [(.int 1)]) (rest := []) rfl rfl rfl (Nat.le_of_ble_eq_true rfl) e2 m3 m4 hc rfl K
theorem b54_50 {r_0 : Nat} {r_1 : Nat} {r_2 : Nat} {o_3 : Option Value} {fs1 : List Value} {v_fs1_1 : Int32} {v_fs1_3 : Int32} (e2 : h r_2 = some (.inr (2, fs1))) (e3 : fs1[1]? = some (.int v_fs1_1)) (e4 : fs1[3]? = some (.int v_fs1_3)) (K1 : v_fs1_1 = v_fs1_3 → ip sc call 54 MC MS Q 71 [some (.ref r_0), some (.ref r_1), some (.ref r_2), o_3] [] h z c s) (K2 : ¬ (v_fs1_1 = v_fs1_3) → ip sc call 54 MC MS Q 61 [some (.ref r_0), some (.ref r_1), some (.ref r_2), o_3] [] h z c s) : ip sc call 54 MC MS Q 50 [some (.ref r_0), some (.ref r_1), some (.ref r_2), o_3] [] h z c s := by
  refine jp_load (pc2 := 51) (n := 2) rfl rfl rfl rfl ?_
  refine jp_getf (pc2 := 54) rfl rfl e2 e3 ?_
  refine jp_load (pc2 := 55) (n := 2) rfl rfl rfl rfl ?_
  refine jp_getf (pc2 := 58) rfl rfl e2 e4 ?_
  exact jp_icmp (pc2 := 61) rfl rfl K1 K2
theorem b54_61 {r_0 : Nat} {r_1 : Nat} {r_2 : Nat} {o_3 : Option Value} {fs1 : List Value} {v_fs1_9 : Int32} (e2 : h r_0 = some (.inr (6, fs1))) (e3 : fs1[9]? = some (.int v_fs1_9)) (l4 : fs1.length = 11) (K : ip sc call 54 MC MS Q 71 [some (.ref r_0), some (.ref r_1), some (.ref r_2), o_3] [] (hup h r_0 (.inr (6, (fs1.set 9 (.int (v_fs1_9 - 1)))))) z c s) : ip sc call 54 MC MS Q 61 [some (.ref r_0), some (.ref r_1), some (.ref r_2), o_3] [] h z c s := by
  refine jp_load (pc2 := 62) (n := 0) rfl rfl rfl rfl ?_
  refine jp_dup (pc2 := 63) rfl rfl rfl ?_
  refine jp_getf (pc2 := 66) rfl rfl e2 e3 ?_
  refine jp_con (pc2 := 67) (v := .int 1) rfl rfl rfl ?_
  refine jp_bin (pc2 := 68) (v := v_fs1_9 - 1) rfl rfl rfl ?_
  refine jp_putf (pc2 := 71) rfl rfl e2 (ln_lt l4 (by decide)) ⟨rfl, rfl⟩ ?_
  exact K
theorem b54_71 {r_0 : Nat} {r_1 : Nat} {r_2 : Nat} {o_3 : Option Value}  (K : ip sc call 54 MC MS Q 73 [some (.ref r_0), some (.ref r_1), some (.ref r_2), some (.int 0)] [] h z c s) : ip sc call 54 MC MS Q 71 [some (.ref r_0), some (.ref r_1), some (.ref r_2), o_3] [] h z c s := by
  refine jp_con (pc2 := 72) (v := .int 0) rfl rfl rfl ?_
  refine jp_store (pc2 := 73) (n := 3) rfl rfl ⟨rfl, rfl⟩ rfl (Nat.le_of_ble_eq_true rfl) ?_
  exact K
theorem b54_73 {r_0 : Nat} {r_1 : Nat} {r_2 : Nat} {x_3 : Int32} {fs1 : List Value} {v_fs1_7 : Int32} (e2 : h r_1 = some (.inr (6, fs1))) (e3 : fs1[7]? = some (.int v_fs1_7)) (K1 : v_fs1_7 ≤ x_3 → ip sc call 54 MC MS Q 131 [some (.ref r_0), some (.ref r_1), some (.ref r_2), some (.int x_3)] [] h z c s) (K2 : ¬ (v_fs1_7 ≤ x_3) → ip sc call 54 MC MS Q 81 [some (.ref r_0), some (.ref r_1), some (.ref r_2), some (.int x_3)] [] h z c s) : ip sc call 54 MC MS Q 73 [some (.ref r_0), some (.ref r_1), some (.ref r_2), some (.int x_3)] [] h z c s := by
  refine jp_load (pc2 := 74) (n := 3) rfl rfl rfl rfl ?_
  refine jp_load (pc2 := 75) (n := 1) rfl rfl rfl rfl ?_
  refine jp_getf (pc2 := 78) rfl rfl e2 e3 ?_
  exact jp_icmp (pc2 := 81) rfl rfl K1 K2
theorem b54_81 {r_0 : Nat} {r_1 : Nat} {r_2 : Nat} {x_3 : Int32} {fs1 : List Value} {v_fs1_0 : Int32} (e2 : h r_2 = some (.inr (2, fs1))) (e3 : fs1[0]? = some (.int v_fs1_0)) (K1 : x_3 = v_fs1_0 → ip sc call 54 MC MS Q 98 [some (.ref r_0), some (.ref r_1), some (.ref r_2), some (.int x_3)] [] h z c s) (K2 : ¬ (x_3 = v_fs1_0) → ip sc call 54 MC MS Q 89 [some (.ref r_0), some (.ref r_1), some (.ref r_2), some (.int x_3)] [] h z c s) : ip sc call 54 MC MS Q 81 [some (.ref r_0), some (.ref r_1), some (.ref r_2), some (.int x_3)] [] h z c s := by
  refine jp_load (pc2 := 82) (n := 3) rfl rfl rfl rfl ?_
  refine jp_load (pc2 := 83) (n := 2) rfl rfl rfl rfl ?_
  refine jp_getf (pc2 := 86) rfl rfl e2 e3 ?_
  exact jp_icmp (pc2 := 89) rfl rfl K1 K2
theorem b54_89 {r_0 : Nat} {r_1 : Nat} {r_2 : Nat} {x_3 : Int32} {fs1 : List Value} {P : ipQ} (e2 : h r_0 = some (.inr (6, fs1))) (m3 : c ≤ MC) (m4 : s ≤ MS) (hc : call 56 [(.ref r_0), (.ref r_1), (.int x_3)] h z 0 0 P) (K : ∀ (o : Option Value) (h2 : HP) (z2 : Nat), P o h2 z2 → ip sc call 54 MC MS Q 95 [some (.ref r_0), some (.ref r_1), some (.ref r_2), some (.int x_3)] (o.toList ++ []) h2 z2 c s) : ip sc call 54 MC MS Q 89 [some (.ref r_0), some (.ref r_1), some (.ref r_2), some (.int x_3)] [] h z c s := by
  refine jp_load (pc2 := 90) (n := 0) rfl rfl rfl rfl ?_
  refine jp_load (pc2 := 91) (n := 1) rfl rfl rfl rfl ?_
  refine jp_load (pc2 := 92) (n := 3) rfl rfl rfl rfl ?_
  exact jp_virt0 (pc2 := 95) (As := [(.ref r_1), (.int x_3)]) (rest := []) rfl rfl rfl (Nat.le_of_ble_eq_true rfl) e2 m3 m4 hc rfl K
theorem b54_95 {r_0 : Nat} {r_1 : Nat} {r_2 : Nat} {x_3 : Int32}  (K : ip sc call 54 MC MS Q 125 [some (.ref r_0), some (.ref r_1), some (.ref r_2), some (.int x_3)] [] h z c s) : ip sc call 54 MC MS Q 95 [some (.ref r_0), some (.ref r_1), some (.ref r_2), some (.int x_3)] [] h z c s := by
  refine ip_goto rfl ?_
  exact K
theorem b54_98 {r_0 : Nat} {r_1 : Nat} {r_2 : Nat} {x_3 : Int32} {fs1 : List Value} {v_fs1_1 : Int32} {v_fs1_3 : Int32} (e2 : h r_2 = some (.inr (2, fs1))) (e3 : fs1[1]? = some (.int v_fs1_1)) (e4 : fs1[3]? = some (.int v_fs1_3)) (K1 : v_fs1_1 = v_fs1_3 → ip sc call 54 MC MS Q 118 [some (.ref r_0), some (.ref r_1), some (.ref r_2), some (.int x_3)] [] h z c s) (K2 : ¬ (v_fs1_1 = v_fs1_3) → ip sc call 54 MC MS Q 109 [some (.ref r_0), some (.ref r_1), some (.ref r_2), some (.int x_3)] [] h z c s) : ip sc call 54 MC MS Q 98 [some (.ref r_0), some (.ref r_1), some (.ref r_2), some (.int x_3)] [] h z c s := by
  refine jp_load (pc2 := 99) (n := 2) rfl rfl rfl rfl ?_
  refine jp_getf (pc2 := 102) rfl rfl e2 e3 ?_
  refine jp_load (pc2 := 103) (n := 2) rfl rfl rfl rfl ?_
  refine jp_getf (pc2 := 106) rfl rfl e2 e4 ?_
  exact jp_icmp (pc2 := 109) rfl rfl K1 K2
theorem b54_109 {r_0 : Nat} {r_1 : Nat} {r_2 : Nat} {x_3 : Int32} {fs1 : List Value} {P : ipQ} (e2 : h r_0 = some (.inr (6, fs1))) (m3 : c ≤ MC) (m4 : s ≤ MS) (hc : call 59 [(.ref r_0), (.ref r_1), (.ref r_2)] h z 0 0 P) (K : ∀ (o : Option Value) (h2 : HP) (z2 : Nat), P o h2 z2 → ip sc call 54 MC MS Q 115 [some (.ref r_0), some (.ref r_1), some (.ref r_2), some (.int x_3)] (o.toList ++ []) h2 z2 c s) : ip sc call 54 MC MS Q 109 [some (.ref r_0), some (.ref r_1), some (.ref r_2), some (.int x_3)] [] h z c s := by
  refine jp_load (pc2 := 110) (n := 0) rfl rfl rfl rfl ?_
  refine jp_load (pc2 := 111) (n := 1) rfl rfl rfl rfl ?_
  refine jp_load (pc2 := 112) (n := 2) rfl rfl rfl rfl ?_
  exact jp_virt0 (pc2 := 115) (As := [(.ref r_1), (.ref r_2)]) (rest := []) rfl rfl rfl (Nat.le_of_ble_eq_true rfl) e2 m3 m4 hc rfl K
theorem b54_115 {r_0 : Nat} {r_1 : Nat} {r_2 : Nat} {x_3 : Int32}  (K : ip sc call 54 MC MS Q 125 [some (.ref r_0), some (.ref r_1), some (.ref r_2), some (.int x_3)] [] h z c s) : ip sc call 54 MC MS Q 115 [some (.ref r_0), some (.ref r_1), some (.ref r_2), some (.int x_3)] [] h z c s := by
  refine ip_goto rfl ?_
  exact K
theorem b54_118 {r_0 : Nat} {r_1 : Nat} {r_2 : Nat} {x_3 : Int32} {fs1 : List Value} {P : ipQ} (e2 : h r_0 = some (.inr (6, fs1))) (m3 : c ≤ MC) (m4 : s ≤ MS) (hc : call 60 [(.ref r_0), (.ref r_1), (.ref r_2), (.int 0)] h z 0 0 P) (K : ∀ (o : Option Value) (h2 : HP) (z2 : Nat), P o h2 z2 → ip sc call 54 MC MS Q 125 [some (.ref r_0), some (.ref r_1), some (.ref r_2), some (.int x_3)] (o.toList ++ []) h2 z2 c s) : ip sc call 54 MC MS Q 118 [some (.ref r_0), some (.ref r_1), some (.ref r_2), some (.int x_3)] [] h z c s := by
  refine jp_load (pc2 := 119) (n := 0) rfl rfl rfl rfl ?_
  refine jp_load (pc2 := 120) (n := 1) rfl rfl rfl rfl ?_
  refine jp_load (pc2 := 121) (n := 2) rfl rfl rfl rfl ?_
  refine jp_con (pc2 := 122) (v := .int 0) rfl rfl rfl ?_
  exact jp_virt0 (pc2 := 125) (As := [(.ref r_1), (.ref r_2), (.int 0)]) (rest := []) rfl rfl rfl (Nat.le_of_ble_eq_true rfl) e2 m3 m4 hc rfl K
theorem b54_125 {r_0 : Nat} {r_1 : Nat} {r_2 : Nat} {x_3 : Int32}  (K : ip sc call 54 MC MS Q 73 [some (.ref r_0), some (.ref r_1), some (.ref r_2), some (.int (x_3 + 1))] [] h z c s) : ip sc call 54 MC MS Q 125 [some (.ref r_0), some (.ref r_1), some (.ref r_2), some (.int x_3)] [] h z c s := by
  refine jp_iinc (pc2 := 128) (n := 3) (v := x_3 + 1) rfl rfl rfl rfl rfl ?_
  refine ip_goto rfl ?_
  exact K
theorem b54_131 {r_0 : Nat} {r_1 : Nat} {r_2 : Nat} {o_3 : Option Value} {fs1 : List Value} {v_fs1_1 : Int32} {v_fs1_3 : Int32} (e2 : h r_2 = some (.inr (2, fs1))) (e3 : fs1[1]? = some (.int v_fs1_1)) (e4 : fs1[3]? = some (.int v_fs1_3)) (K1 : ¬ v_fs1_1 = v_fs1_3 → ip sc call 54 MC MS Q 149 [some (.ref r_0), some (.ref r_1), some (.ref r_2), o_3] [] h z c s) (K2 : ¬ (¬ v_fs1_1 = v_fs1_3) → ip sc call 54 MC MS Q 142 [some (.ref r_0), some (.ref r_1), some (.ref r_2), o_3] [] h z c s) : ip sc call 54 MC MS Q 131 [some (.ref r_0), some (.ref r_1), some (.ref r_2), o_3] [] h z c s := by
  refine jp_load (pc2 := 132) (n := 2) rfl rfl rfl rfl ?_
  refine jp_getf (pc2 := 135) rfl rfl e2 e3 ?_
  refine jp_load (pc2 := 136) (n := 2) rfl rfl rfl rfl ?_
  refine jp_getf (pc2 := 139) rfl rfl e2 e4 ?_
  exact jp_icmp (pc2 := 142) rfl rfl K1 K2
theorem b54_142 {r_0 : Nat} {r_1 : Nat} {r_2 : Nat} {o_3 : Option Value} {fs1 : List Value} {P : ipQ} (e2 : h r_0 = some (.inr (6, fs1))) (m3 : c ≤ MC) (m4 : s ≤ MS) (hc : call 60 [(.ref r_0), (.ref r_1), (.ref r_2), (.int 1)] h z 0 0 P) (K : ∀ (o : Option Value) (h2 : HP) (z2 : Nat), P o h2 z2 → ip sc call 54 MC MS Q 149 [some (.ref r_0), some (.ref r_1), some (.ref r_2), o_3] (o.toList ++ []) h2 z2 c s) : ip sc call 54 MC MS Q 142 [some (.ref r_0), some (.ref r_1), some (.ref r_2), o_3] [] h z c s := by
  refine jp_load (pc2 := 143) (n := 0) rfl rfl rfl rfl ?_
  refine jp_load (pc2 := 144) (n := 1) rfl rfl rfl rfl ?_
  refine jp_load (pc2 := 145) (n := 2) rfl rfl rfl rfl ?_
  refine jp_con (pc2 := 146) (v := .int 1) rfl rfl rfl ?_
  exact jp_virt0 (pc2 := 149) (As := [(.ref r_1), (.ref r_2), (.int 1)]) (rest := []) rfl rfl rfl (Nat.le_of_ble_eq_true rfl) e2 m3 m4 hc rfl K
theorem b54_149 {o_0 : Option Value} {o_1 : Option Value} {o_2 : Option Value} {o_3 : Option Value} (q1 : Q none h z)  : ip sc call 54 MC MS Q 149 [o_0, o_1, o_2, o_3] [] h z c s := by
  exact ip_vret (st := []) rfl rfl q1
theorem b55_0 {r_0 : Nat} {x_1 : Int32} {fs1 : List Value} {q_fs1_4 : Nat} {n4 : Nat} {f5 : Nat → Int32} {v_fs1_10 : Int32} (e2 : h r_0 = some (.inr (6, fs1))) (e3 : fs1[4]? = some (.ref q_fs1_4)) (e6 : h q_fs1_4 = some (.inl (0, n4, .inl f5))) (b7 : vp_in x_1 n4) (n8 : r_0 ≠ q_fs1_4) (e9 : fs1[10]? = some (.int v_fs1_10)) (l10 : fs1.length = 11) (q11 : Q none (hup (hup h q_fs1_4 (.inl (0, n4, .inl (upd f5 x_1.toNatClampNeg ((f5 x_1.toNatClampNeg) - 1))))) r_0 (.inr (6, (fs1.set 10 (.int (v_fs1_10 - 1)))))) z)  : ip sc call 55 MC MS Q 0 [some (.ref r_0), some (.int x_1)] [] h z c s := by
  refine jp_load (pc2 := 1) (n := 0) rfl rfl rfl rfl ?_
  refine jp_getf (pc2 := 4) rfl rfl e2 e3 ?_
  refine jp_load (pc2 := 5) (n := 1) rfl rfl rfl rfl ?_
  refine jp_dup2 (pc2 := 6) rfl rfl rfl rfl ?_
  refine jp_iald (pc2 := 7) rfl rfl e6 b7 ?_
  refine jp_con (pc2 := 8) (v := .int 1) rfl rfl rfl ?_
  refine jp_bin (pc2 := 9) (v := (f5 x_1.toNatClampNeg) - 1) rfl rfl rfl ?_
  refine jp_iast (pc2 := 10) rfl rfl e6 b7 ?_
  refine jp_load (pc2 := 11) (n := 0) rfl rfl rfl rfl ?_
  refine jp_dup (pc2 := 12) rfl rfl rfl ?_
  refine jp_getf (pc2 := 15) rfl rfl (hup_ne n8 e2) e9 ?_
  refine jp_con (pc2 := 16) (v := .int 1) rfl rfl rfl ?_
  refine jp_bin (pc2 := 17) (v := v_fs1_10 - 1) rfl rfl rfl ?_
  refine jp_putf (pc2 := 20) rfl rfl (hup_ne n8 e2) (ln_lt l10 (by decide)) ⟨rfl, rfl⟩ ?_
  exact ip_vret (st := []) rfl rfl q11
theorem b56_0 {r_0 : Nat} {r_1 : Nat} {x_2 : Int32} {o_3 : Option Value} {fs1 : List Value} {q_fs1_3 : Nat} {n4 : Nat} {f5 : Nat → Int32} (e2 : h r_1 = some (.inr (6, fs1))) (e3 : fs1[3]? = some (.ref q_fs1_3)) (e6 : h q_fs1_3 = some (.inl (0, n4, .inl f5))) (b7 : vp_in x_2 n4) (K : ip sc call 56 MC MS Q 7 [some (.ref r_0), some (.ref r_1), some (.int x_2), some (.int (f5 x_2.toNatClampNeg))] [] h z c s) : ip sc call 56 MC MS Q 0 [some (.ref r_0), some (.ref r_1), some (.int x_2), o_3] [] h z c s := by
  refine jp_load (pc2 := 1) (n := 1) rfl rfl rfl rfl ?_
  refine jp_getf (pc2 := 4) rfl rfl e2 e3 ?_
  refine jp_load (pc2 := 5) (n := 2) rfl rfl rfl rfl ?_
  refine jp_iald (pc2 := 6) rfl rfl e6 b7 ?_
  refine jp_store (pc2 := 7) (n := 3) rfl rfl ⟨rfl, rfl⟩ rfl (Nat.le_of_ble_eq_true rfl) ?_
  exact K
theorem b56_7 {r_0 : Nat} {r_1 : Nat} {x_2 : Int32} {x_3 : Int32} {fs1 : List Value} {q_fs1_3 : Nat} {n4 : Nat} {f5 : Nat → Int32} (e2 : h r_1 = some (.inr (6, fs1))) (e3 : fs1[3]? = some (.ref q_fs1_3)) (e6 : h q_fs1_3 = some (.inl (0, n4, .inl f5))) (b7 : vp_in (x_2 + 1) n4) (K1 : (f5 (x_2 + 1).toNatClampNeg) ≤ x_3 → ip sc call 56 MC MS Q 41 [some (.ref r_0), some (.ref r_1), some (.int x_2), some (.int x_3)] [] h z c s) (K2 : ¬ ((f5 (x_2 + 1).toNatClampNeg) ≤ x_3) → ip sc call 56 MC MS Q 19 [some (.ref r_0), some (.ref r_1), some (.int x_2), some (.int x_3)] [] h z c s) : ip sc call 56 MC MS Q 7 [some (.ref r_0), some (.ref r_1), some (.int x_2), some (.int x_3)] [] h z c s := by
  refine jp_load (pc2 := 8) (n := 3) rfl rfl rfl rfl ?_
  refine jp_load (pc2 := 9) (n := 1) rfl rfl rfl rfl ?_
  refine jp_getf (pc2 := 12) rfl rfl e2 e3 ?_
  refine jp_load (pc2 := 13) (n := 2) rfl rfl rfl rfl ?_
  refine jp_con (pc2 := 14) (v := .int 1) rfl rfl rfl ?_
  refine jp_bin (pc2 := 15) (v := x_2 + 1) rfl rfl rfl ?_
  refine jp_iald (pc2 := 16) rfl rfl e6 b7 ?_
  exact jp_icmp (pc2 := 19) rfl rfl K1 K2
theorem b56_19 {r_0 : Nat} {r_1 : Nat} {x_2 : Int32} {x_3 : Int32} {fs1 : List Value} {P : ipQ} (e2 : h r_1 = some (.inr (6, fs1))) (m3 : c ≤ MC) (m4 : s ≤ MS) (hc : call 41 [(.ref r_1), (.int x_3)] h z 0 0 P) (K : ∀ (o : Option Value) (h2 : HP) (z2 : Nat), P o h2 z2 → ip sc call 56 MC MS Q 28 [some (.ref r_0), some (.ref r_1), some (.int x_2), some (.int x_3)] (o.toList ++ [(.int 0), (.int x_3), (.ref r_1), (.ref r_0)]) h2 z2 c s) : ip sc call 56 MC MS Q 19 [some (.ref r_0), some (.ref r_1), some (.int x_2), some (.int x_3)] [] h z c s := by
  refine jp_load (pc2 := 20) (n := 0) rfl rfl rfl rfl ?_
  refine jp_load (pc2 := 21) (n := 1) rfl rfl rfl rfl ?_
  refine jp_load (pc2 := 22) (n := 3) rfl rfl rfl rfl ?_
  refine jp_con (pc2 := 23) (v := .int 0) rfl rfl rfl ?_
  refine jp_load (pc2 := 24) (n := 1) rfl rfl rfl rfl ?_
  refine jp_load (pc2 := 25) (n := 3) rfl rfl rfl rfl ?_
  exact jp_virt0 (pc2 := 28) (As := [(.int x_3)]) (rest := [(.int 0), (.int x_3), (.ref r_1), (.ref r_0)]) rfl rfl rfl (Nat.le_of_ble_eq_true rfl) e2 m3 m4 hc rfl K
theorem b56_28 {r_0 : Nat} {r_1 : Nat} {x_2 : Int32} {x_3 : Int32} {sr_0 : Nat} {sr_1 : Nat} {sx_2 : Int32} {sx_3 : Int32} {sx_4 : Int32} {fs1 : List Value} {P : ipQ} (e2 : h sr_0 = some (.inr (6, fs1))) (m3 : c ≤ MC) (m4 : s ≤ MS) (hc : call 57 [(.ref sr_0), (.ref sr_1), (.int sx_2), (.int sx_3), (.int sx_4)] h z 0 0 P) (K : ∀ (o : Option Value) (h2 : HP) (z2 : Nat), P o h2 z2 → ip sc call 56 MC MS Q 31 [some (.ref r_0), some (.ref r_1), some (.int x_2), some (.int x_3)] (o.toList ++ []) h2 z2 c s) : ip sc call 56 MC MS Q 28 [some (.ref r_0), some (.ref r_1), some (.int x_2), some (.int x_3)] [(.int sx_4), (.int sx_3), (.int sx_2), (.ref sr_1), (.ref sr_0)] h z c s := by
  exact jp_virt0 (pc2 := 31) (As := [(.ref sr_1), (.int sx_2), (.int sx_3), (.int sx_4)]) (rest := []) rfl rfl rfl (Nat.le_of_ble_eq_true rfl) e2 m3 m4 hc rfl K
theorem b56_31 {r_0 : Nat} {r_1 : Nat} {x_2 : Int32} {x_3 : Int32} {fs1 : List Value} {P : ipQ} (e2 : h r_0 = some (.inr (6, fs1))) (m3 : c ≤ MC) (m4 : s ≤ MS) (hc : call 62 [(.ref r_0)] h z 0 0 P) (K : ∀ (o : Option Value) (h2 : HP) (z2 : Nat), P o h2 z2 → ip sc call 56 MC MS Q 35 [some (.ref r_0), some (.ref r_1), some (.int x_2), some (.int x_3)] (o.toList ++ []) h2 z2 c s) : ip sc call 56 MC MS Q 31 [some (.ref r_0), some (.ref r_1), some (.int x_2), some (.int x_3)] [] h z c s := by
  refine jp_load (pc2 := 32) (n := 0) rfl rfl rfl rfl ?_
  exact jp_virt0 (pc2 := 35) (As := []) (rest := []) rfl rfl rfl (Nat.le_of_ble_eq_true rfl) e2 m3 m4 hc rfl K
theorem b56_35 {r_0 : Nat} {r_1 : Nat} {x_2 : Int32} {x_3 : Int32}  (K : ip sc call 56 MC MS Q 7 [some (.ref r_0), some (.ref r_1), some (.int x_2), some (.int (x_3 + 1))] [] h z c s) : ip sc call 56 MC MS Q 35 [some (.ref r_0), some (.ref r_1), some (.int x_2), some (.int x_3)] [] h z c s := by
  refine jp_iinc (pc2 := 38) (n := 3) (v := x_3 + 1) rfl rfl rfl rfl rfl ?_
  refine ip_goto rfl ?_
  exact K
theorem b56_41 {r_0 : Nat} {o_1 : Option Value} {o_2 : Option Value} {o_3 : Option Value} {fs1 : List Value} {P : ipQ} (e2 : h r_0 = some (.inr (6, fs1))) (m3 : c ≤ MC) (m4 : s ≤ MS) (hc : call 63 [(.ref r_0)] h z 0 0 P) (K : ∀ (o : Option Value) (h2 : HP) (z2 : Nat), P o h2 z2 → ip sc call 56 MC MS Q 45 [some (.ref r_0), o_1, o_2, o_3] (o.toList ++ []) h2 z2 c s) : ip sc call 56 MC MS Q 41 [some (.ref r_0), o_1, o_2, o_3] [] h z c s := by
  refine jp_load (pc2 := 42) (n := 0) rfl rfl rfl rfl ?_
  exact jp_virt0 (pc2 := 45) (As := []) (rest := []) rfl rfl rfl (Nat.le_of_ble_eq_true rfl) e2 m3 m4 hc rfl K
theorem b56_45 {o_0 : Option Value} {o_1 : Option Value} {o_2 : Option Value} {o_3 : Option Value} (q1 : Q none h z)  : ip sc call 56 MC MS Q 45 [o_0, o_1, o_2, o_3] [] h z c s := by
  exact ip_vret (st := []) rfl rfl q1
theorem b57_0 {r_0 : Nat} {r_1 : Nat} {x_2 : Int32} {x_3 : Int32} {x_4 : Int32} {o_5 : Option Value} {o_6 : Option Value} {o_7 : Option Value} {o_8 : Option Value} {fs1 : List Value} {q_fs1_2 : Nat} {n4 : Nat} {f5 : Nat → Int32} {P : ipQ} (e2 : h r_1 = some (.inr (6, fs1))) (e3 : fs1[2]? = some (.ref q_fs1_2)) (e6 : h q_fs1_2 = some (.inl (0, n4, .inl f5))) (b7 : vp_in x_2 n4) (m8 : c ≤ MC) (m9 : s ≤ MS) (hc : call 41 [(.ref r_1), (.int x_2)] h z 0 0 P) (K : ∀ (o : Option Value) (h2 : HP) (z2 : Nat), P o h2 z2 → ip sc call 57 MC MS Q 13 [some (.ref r_0), some (.ref r_1), some (.int x_2), some (.int x_3), some (.int x_4), some (.int (f5 x_2.toNatClampNeg)), o_6, o_7, o_8] (o.toList ++ []) h2 z2 c s) : ip sc call 57 MC MS Q 0 [some (.ref r_0), some (.ref r_1), some (.int x_2), some (.int x_3), some (.int x_4), o_5, o_6, o_7, o_8] [] h z c s := by
  refine jp_load (pc2 := 1) (n := 1) rfl rfl rfl rfl ?_
  refine jp_getf (pc2 := 4) rfl rfl e2 e3 ?_
  refine jp_load (pc2 := 5) (n := 2) rfl rfl rfl rfl ?_
  refine jp_iald (pc2 := 6) rfl rfl e6 b7 ?_
  refine jp_store (pc2 := 8) (n := 5) rfl rfl ⟨rfl, rfl⟩ rfl (Nat.le_of_ble_eq_true rfl) ?_
  refine jp_load (pc2 := 9) (n := 1) rfl rfl rfl rfl ?_
  refine jp_load (pc2 := 10) (n := 2) rfl rfl rfl rfl ?_
  exact jp_virt0 (pc2 := 13) (As := [(.int x_2)]) (rest := []) rfl rfl rfl (Nat.le_of_ble_eq_true rfl) e2 m8 m9 hc rfl K
theorem b57_13 {r_0 : Nat} {r_1 : Nat} {o_2 : Option Value} {x_3 : Int32} {x_4 : Int32} {x_5 : Int32} {o_6 : Option Value} {o_7 : Option Value} {o_8 : Option Value} {sx_0 : Int32}  (K : ip sc call 57 MC MS Q 21 [some (.ref r_0), some (.ref r_1), o_2, some (.int x_3), some (.int x_4), some (.int x_5), some (.int sx_0), some (.int x_3), some (.int 0)] [] h z c s) : ip sc call 57 MC MS Q 13 [some (.ref r_0), some (.ref r_1), o_2, some (.int x_3), some (.int x_4), some (.int x_5), o_6, o_7, o_8] [(.int sx_0)] h z c s := by
  refine jp_store (pc2 := 15) (n := 6) rfl rfl ⟨rfl, rfl⟩ rfl (Nat.le_of_ble_eq_true rfl) ?_
  refine jp_load (pc2 := 16) (n := 3) rfl rfl rfl rfl ?_
  refine jp_store (pc2 := 18) (n := 7) rfl rfl ⟨rfl, rfl⟩ rfl (Nat.le_of_ble_eq_true rfl) ?_
  refine jp_con (pc2 := 19) (v := .int 0) rfl rfl rfl ?_
  refine jp_store (pc2 := 21) (n := 8) rfl rfl ⟨rfl, rfl⟩ rfl (Nat.le_of_ble_eq_true rfl) ?_
  exact K
theorem b57_21 {r_0 : Nat} {r_1 : Nat} {o_2 : Option Value} {o_3 : Option Value} {x_4 : Int32} {x_5 : Int32} {x_6 : Int32} {x_7 : Int32} {x_8 : Int32}  (K1 : x_4 ≤ x_8 → ip sc call 57 MC MS Q 67 [some (.ref r_0), some (.ref r_1), o_2, o_3, some (.int x_4), some (.int x_5), some (.int x_6), some (.int x_7), some (.int x_8)] [] h z c s) (K2 : ¬ (x_4 ≤ x_8) → ip sc call 57 MC MS Q 28 [some (.ref r_0), some (.ref r_1), o_2, o_3, some (.int x_4), some (.int x_5), some (.int x_6), some (.int x_7), some (.int x_8)] [] h z c s) : ip sc call 57 MC MS Q 21 [some (.ref r_0), some (.ref r_1), o_2, o_3, some (.int x_4), some (.int x_5), some (.int x_6), some (.int x_7), some (.int x_8)] [] h z c s := by
  refine jp_load (pc2 := 23) (n := 8) rfl rfl rfl rfl ?_
  refine jp_load (pc2 := 25) (n := 4) rfl rfl rfl rfl ?_
  exact jp_icmp (pc2 := 28) rfl rfl K1 K2
theorem b57_28 {r_0 : Nat} {r_1 : Nat} {o_2 : Option Value} {o_3 : Option Value} {x_4 : Int32} {x_5 : Int32} {x_6 : Int32} {x_7 : Int32} {x_8 : Int32} {fs1 : List Value} {q_fs1_1 : Nat} {n4 : Nat} {f5 : Nat → Int32} {fs8 : List Value} {P : ipQ} (e2 : h r_1 = some (.inr (6, fs1))) (e3 : fs1[1]? = some (.ref q_fs1_1)) (e6 : h q_fs1_1 = some (.inl (0, n4, .inl f5))) (b7 : vp_in (x_5 + x_7) n4) (e9 : h r_0 = some (.inr (6, fs8))) (m10 : c ≤ MC) (m11 : s ≤ MS) (hc : call 61 [(.ref r_0), (.int (f5 (x_5 + x_7).toNatClampNeg))] h z 0 0 P) (K : ∀ (o : Option Value) (h2 : HP) (z2 : Nat), P o h2 z2 → ip sc call 57 MC MS Q 42 [some (.ref r_0), some (.ref r_1), o_2, o_3, some (.int x_4), some (.int x_5), some (.int x_6), some (.int x_7), some (.int x_8)] (o.toList ++ []) h2 z2 c s) : ip sc call 57 MC MS Q 28 [some (.ref r_0), some (.ref r_1), o_2, o_3, some (.int x_4), some (.int x_5), some (.int x_6), some (.int x_7), some (.int x_8)] [] h z c s := by
  refine jp_load (pc2 := 29) (n := 0) rfl rfl rfl rfl ?_
  refine jp_load (pc2 := 30) (n := 1) rfl rfl rfl rfl ?_
  refine jp_getf (pc2 := 33) rfl rfl e2 e3 ?_
  refine jp_load (pc2 := 35) (n := 5) rfl rfl rfl rfl ?_
  refine jp_load (pc2 := 37) (n := 7) rfl rfl rfl rfl ?_
  refine jp_bin (pc2 := 38) (v := x_5 + x_7) rfl rfl rfl ?_
  refine jp_iald (pc2 := 39) rfl rfl e6 b7 ?_
  exact jp_virt0 (pc2 := 42) (As := [(.int (f5 (x_5 + x_7).toNatClampNeg))]) (rest := []) rfl rfl rfl (Nat.le_of_ble_eq_true rfl) e9 m10 m11 hc rfl K
theorem b57_42 {r_0 : Nat} {r_1 : Nat} {o_2 : Option Value} {o_3 : Option Value} {x_4 : Int32} {x_5 : Int32} {x_6 : Int32} {x_7 : Int32} {x_8 : Int32}  (K1 : x_6 ≤ (x_7 + 1) → ip sc call 57 MC MS Q 58 [some (.ref r_0), some (.ref r_1), o_2, o_3, some (.int x_4), some (.int x_5), some (.int x_6), some (.int x_7), some (.int x_8)] [] h z c s) (K2 : ¬ (x_6 ≤ (x_7 + 1)) → ip sc call 57 MC MS Q 51 [some (.ref r_0), some (.ref r_1), o_2, o_3, some (.int x_4), some (.int x_5), some (.int x_6), some (.int x_7), some (.int x_8)] [] h z c s) : ip sc call 57 MC MS Q 42 [some (.ref r_0), some (.ref r_1), o_2, o_3, some (.int x_4), some (.int x_5), some (.int x_6), some (.int x_7), some (.int x_8)] [] h z c s := by
  refine jp_load (pc2 := 44) (n := 7) rfl rfl rfl rfl ?_
  refine jp_con (pc2 := 45) (v := .int 1) rfl rfl rfl ?_
  refine jp_bin (pc2 := 46) (v := x_7 + 1) rfl rfl rfl ?_
  refine jp_load (pc2 := 48) (n := 6) rfl rfl rfl rfl ?_
  exact jp_icmp (pc2 := 51) rfl rfl K1 K2
theorem b57_51 {r_0 : Nat} {r_1 : Nat} {o_2 : Option Value} {o_3 : Option Value} {x_4 : Int32} {x_5 : Int32} {x_6 : Int32} {x_7 : Int32} {x_8 : Int32}  (K : ip sc call 57 MC MS Q 59 [some (.ref r_0), some (.ref r_1), o_2, o_3, some (.int x_4), some (.int x_5), some (.int x_6), some (.int x_7), some (.int x_8)] [(.int (x_7 + 1))] h z c s) : ip sc call 57 MC MS Q 51 [some (.ref r_0), some (.ref r_1), o_2, o_3, some (.int x_4), some (.int x_5), some (.int x_6), some (.int x_7), some (.int x_8)] [] h z c s := by
  refine jp_load (pc2 := 53) (n := 7) rfl rfl rfl rfl ?_
  refine jp_con (pc2 := 54) (v := .int 1) rfl rfl rfl ?_
  refine jp_bin (pc2 := 55) (v := x_7 + 1) rfl rfl rfl ?_
  refine ip_goto rfl ?_
  exact K
theorem b57_58 {r_0 : Nat} {r_1 : Nat} {o_2 : Option Value} {o_3 : Option Value} {x_4 : Int32} {x_5 : Int32} {x_6 : Int32} {o_7 : Option Value} {x_8 : Int32}  (K : ip sc call 57 MC MS Q 59 [some (.ref r_0), some (.ref r_1), o_2, o_3, some (.int x_4), some (.int x_5), some (.int x_6), o_7, some (.int x_8)] [(.int 0)] h z c s) : ip sc call 57 MC MS Q 58 [some (.ref r_0), some (.ref r_1), o_2, o_3, some (.int x_4), some (.int x_5), some (.int x_6), o_7, some (.int x_8)] [] h z c s := by
  refine jp_con (pc2 := 59) (v := .int 0) rfl rfl rfl ?_
  exact K
theorem b57_59 {r_0 : Nat} {r_1 : Nat} {o_2 : Option Value} {o_3 : Option Value} {x_4 : Int32} {x_5 : Int32} {x_6 : Int32} {o_7 : Option Value} {x_8 : Int32} {sx_0 : Int32}  (K : ip sc call 57 MC MS Q 21 [some (.ref r_0), some (.ref r_1), o_2, o_3, some (.int x_4), some (.int x_5), some (.int x_6), some (.int sx_0), some (.int (x_8 + 1))] [] h z c s) : ip sc call 57 MC MS Q 59 [some (.ref r_0), some (.ref r_1), o_2, o_3, some (.int x_4), some (.int x_5), some (.int x_6), o_7, some (.int x_8)] [(.int sx_0)] h z c s := by
  refine jp_store (pc2 := 61) (n := 7) rfl rfl ⟨rfl, rfl⟩ rfl (Nat.le_of_ble_eq_true rfl) ?_
  refine jp_iinc (pc2 := 64) (n := 8) (v := x_8 + 1) rfl rfl rfl rfl rfl ?_
  refine ip_goto rfl ?_
  exact K
theorem b57_67 {o_0 : Option Value} {o_1 : Option Value} {o_2 : Option Value} {o_3 : Option Value} {o_4 : Option Value} {o_5 : Option Value} {o_6 : Option Value} {o_7 : Option Value} {o_8 : Option Value} (q1 : Q none h z)  : ip sc call 57 MC MS Q 67 [o_0, o_1, o_2, o_3, o_4, o_5, o_6, o_7, o_8] [] h z c s := by
  exact ip_vret (st := []) rfl rfl q1
theorem b58_0 {r_0 : Nat} {x_1 : Int32} {x_2 : Int32} {fs1 : List Value} {q_fs1_4 : Nat} {q_fs1_1 : Nat} {q_fs1_2 : Nat} {n6 : Nat} {f7 : Nat → Int32} {n10 : Nat} {f11 : Nat → Int32} {n14 : Nat} {f15 : Nat → Int32} (e2 : h r_0 = some (.inr (6, fs1))) (e3 : fs1[4]? = some (.ref q_fs1_4)) (e4 : fs1[1]? = some (.ref q_fs1_1)) (e5 : fs1[2]? = some (.ref q_fs1_2)) (e8 : h q_fs1_2 = some (.inl (0, n6, .inl f7))) (b9 : vp_in x_1 n6) (e12 : h q_fs1_1 = some (.inl (0, n10, .inl f11))) (b13 : vp_in ((f7 x_1.toNatClampNeg) + x_2) n10) (e16 : h q_fs1_4 = some (.inl (0, n14, .inl f15))) (b17 : vp_in (f11 ((f7 x_1.toNatClampNeg) + x_2).toNatClampNeg) n14) (K1 : ¬ (f15 (f11 ((f7 x_1.toNatClampNeg) + x_2).toNatClampNeg).toNatClampNeg) = 3 → ip sc call 58 MC MS Q 26 [some (.ref r_0), some (.int x_1), some (.int x_2)] [] h z c s) (K2 : ¬ (¬ (f15 (f11 ((f7 x_1.toNatClampNeg) + x_2).toNatClampNeg).toNatClampNeg) = 3) → ip sc call 58 MC MS Q 22 [some (.ref r_0), some (.int x_1), some (.int x_2)] [] h z c s) : ip sc call 58 MC MS Q 0 [some (.ref r_0), some (.int x_1), some (.int x_2)] [] h z c s := by
  refine jp_load (pc2 := 1) (n := 0) rfl rfl rfl rfl ?_
  refine jp_getf (pc2 := 4) rfl rfl e2 e3 ?_
  refine jp_load (pc2 := 5) (n := 0) rfl rfl rfl rfl ?_
  refine jp_getf (pc2 := 8) rfl rfl e2 e4 ?_
  refine jp_load (pc2 := 9) (n := 0) rfl rfl rfl rfl ?_
  refine jp_getf (pc2 := 12) rfl rfl e2 e5 ?_
  refine jp_load (pc2 := 13) (n := 1) rfl rfl rfl rfl ?_
  refine jp_iald (pc2 := 14) rfl rfl e8 b9 ?_
  refine jp_load (pc2 := 15) (n := 2) rfl rfl rfl rfl ?_
  refine jp_bin (pc2 := 16) (v := (f7 x_1.toNatClampNeg) + x_2) rfl rfl rfl ?_
  refine jp_iald (pc2 := 17) rfl rfl e12 b13 ?_
  refine jp_iald (pc2 := 18) rfl rfl e16 b17 ?_
  refine jp_con (pc2 := 19) (v := .int 3) rfl rfl rfl ?_
  exact jp_icmp (pc2 := 22) rfl rfl K1 K2
theorem b58_22 {o_0 : Option Value} {o_1 : Option Value} {o_2 : Option Value}  (K : ip sc call 58 MC MS Q 33 [o_0, o_1, o_2] [(.int 1)] h z c s) : ip sc call 58 MC MS Q 22 [o_0, o_1, o_2] [] h z c s := by
  refine jp_con (pc2 := 23) (v := .int 1) rfl rfl rfl ?_
  refine ip_goto rfl ?_
  exact K
theorem b58_26 {r_0 : Nat} {x_1 : Int32} {o_2 : Option Value} {fs1 : List Value} {P : ipQ} (e2 : h r_0 = some (.inr (6, fs1))) (m3 : c ≤ MC) (m4 : s ≤ MS) (hc : call 41 [(.ref r_0), (.int x_1)] h z 0 0 P) (K : ∀ (o : Option Value) (h2 : HP) (z2 : Nat), P o h2 z2 → ip sc call 58 MC MS Q 31 [some (.ref r_0), some (.int x_1), o_2] (o.toList ++ []) h2 z2 c s) : ip sc call 58 MC MS Q 26 [some (.ref r_0), some (.int x_1), o_2] [] h z c s := by
  refine jp_load (pc2 := 27) (n := 0) rfl rfl rfl rfl ?_
  refine jp_load (pc2 := 28) (n := 1) rfl rfl rfl rfl ?_
  exact jp_virt0 (pc2 := 31) (As := [(.int x_1)]) (rest := []) rfl rfl rfl (Nat.le_of_ble_eq_true rfl) e2 m3 m4 hc rfl K
theorem b58_31 {o_0 : Option Value} {o_1 : Option Value} {o_2 : Option Value} {sx_0 : Int32}  (K : ip sc call 58 MC MS Q 33 [o_0, o_1, o_2] [(.int (sx_0 + 1))] h z c s) : ip sc call 58 MC MS Q 31 [o_0, o_1, o_2] [(.int sx_0)] h z c s := by
  refine jp_con (pc2 := 32) (v := .int 1) rfl rfl rfl ?_
  refine jp_bin (pc2 := 33) (v := sx_0 + 1) rfl rfl rfl ?_
  exact K
theorem b58_33 {o_0 : Option Value} {o_1 : Option Value} {o_2 : Option Value} {sx_0 : Int32} (q1 : Q (some (.int sx_0)) h z)  : ip sc call 58 MC MS Q 33 [o_0, o_1, o_2] [(.int sx_0)] h z c s := by
  exact ip_iret (st := []) rfl rfl rfl q1
theorem b59_0 {r_0 : Nat} {r_1 : Nat} {r_2 : Nat} {o_3 : Option Value} {o_4 : Option Value} {o_5 : Option Value} {fs1 : List Value} {q_fs1_3 : Nat} {fs4 : List Value} {v_fs4_0 : Int32} {n7 : Nat} {f8 : Nat → Int32} {v_fs1_8 : Int32} (e2 : h r_1 = some (.inr (6, fs1))) (e3 : fs1[3]? = some (.ref q_fs1_3)) (e5 : h r_2 = some (.inr (2, fs4))) (e6 : fs4[0]? = some (.int v_fs4_0)) (e9 : h q_fs1_3 = some (.inl (0, n7, .inl f8))) (b10 : vp_in v_fs4_0 n7) (e11 : fs1[8]? = some (.int v_fs1_8)) (K : ip sc call 59 MC MS Q 19 [some (.ref r_0), some (.ref r_1), some (.ref r_2), some (.int (f8 v_fs4_0.toNatClampNeg)), some (.int v_fs1_8), some (.int (f8 v_fs4_0.toNatClampNeg))] [] h z c s) : ip sc call 59 MC MS Q 0 [some (.ref r_0), some (.ref r_1), some (.ref r_2), o_3, o_4, o_5] [] h z c s := by
  refine jp_load (pc2 := 1) (n := 1) rfl rfl rfl rfl ?_
  refine jp_getf (pc2 := 4) rfl rfl e2 e3 ?_
  refine jp_load (pc2 := 5) (n := 2) rfl rfl rfl rfl ?_
  refine jp_getf (pc2 := 8) rfl rfl e5 e6 ?_
  refine jp_iald (pc2 := 9) rfl rfl e9 b10 ?_
  refine jp_store (pc2 := 10) (n := 3) rfl rfl ⟨rfl, rfl⟩ rfl (Nat.le_of_ble_eq_true rfl) ?_
  refine jp_load (pc2 := 11) (n := 1) rfl rfl rfl rfl ?_
  refine jp_getf (pc2 := 14) rfl rfl e2 e11 ?_
  refine jp_store (pc2 := 16) (n := 4) rfl rfl ⟨rfl, rfl⟩ rfl (Nat.le_of_ble_eq_true rfl) ?_
  refine jp_load (pc2 := 17) (n := 3) rfl rfl rfl rfl ?_
  refine jp_store (pc2 := 19) (n := 5) rfl rfl ⟨rfl, rfl⟩ rfl (Nat.le_of_ble_eq_true rfl) ?_
  exact K
theorem b59_19 {r_0 : Nat} {r_1 : Nat} {r_2 : Nat} {x_3 : Int32} {x_4 : Int32} {x_5 : Int32} {fs1 : List Value} {q_fs1_3 : Nat} {fs4 : List Value} {v_fs4_0 : Int32} {n7 : Nat} {f8 : Nat → Int32} (e2 : h r_1 = some (.inr (6, fs1))) (e3 : fs1[3]? = some (.ref q_fs1_3)) (e5 : h r_2 = some (.inr (2, fs4))) (e6 : fs4[0]? = some (.int v_fs4_0)) (e9 : h q_fs1_3 = some (.inl (0, n7, .inl f8))) (b10 : vp_in (v_fs4_0 + 1) n7) (K1 : (f8 (v_fs4_0 + 1).toNatClampNeg) ≤ x_5 → ip sc call 59 MC MS Q 150 [some (.ref r_0), some (.ref r_1), some (.ref r_2), some (.int x_3), some (.int x_4), some (.int x_5)] [] h z c s) (K2 : ¬ ((f8 (v_fs4_0 + 1).toNatClampNeg) ≤ x_5) → ip sc call 59 MC MS Q 35 [some (.ref r_0), some (.ref r_1), some (.ref r_2), some (.int x_3), some (.int x_4), some (.int x_5)] [] h z c s) : ip sc call 59 MC MS Q 19 [some (.ref r_0), some (.ref r_1), some (.ref r_2), some (.int x_3), some (.int x_4), some (.int x_5)] [] h z c s := by
  refine jp_load (pc2 := 21) (n := 5) rfl rfl rfl rfl ?_
  refine jp_load (pc2 := 22) (n := 1) rfl rfl rfl rfl ?_
  refine jp_getf (pc2 := 25) rfl rfl e2 e3 ?_
  refine jp_load (pc2 := 26) (n := 2) rfl rfl rfl rfl ?_
  refine jp_getf (pc2 := 29) rfl rfl e5 e6 ?_
  refine jp_con (pc2 := 30) (v := .int 1) rfl rfl rfl ?_
  refine jp_bin (pc2 := 31) (v := v_fs4_0 + 1) rfl rfl rfl ?_
  refine jp_iald (pc2 := 32) rfl rfl e9 b10 ?_
  exact jp_icmp (pc2 := 35) rfl rfl K1 K2
theorem b59_35 {r_0 : Nat} {r_1 : Nat} {r_2 : Nat} {x_3 : Int32} {x_4 : Int32} {x_5 : Int32} {fs1 : List Value} {v_fs1_1 : Int32} (e2 : h r_2 = some (.inr (2, fs1))) (e3 : fs1[1]? = some (.int v_fs1_1)) (K1 : ¬ x_5 = (x_3 + v_fs1_1) → ip sc call 59 MC MS Q 115 [some (.ref r_0), some (.ref r_1), some (.ref r_2), some (.int x_3), some (.int x_4), some (.int x_5)] [] h z c s) (K2 : ¬ (¬ x_5 = (x_3 + v_fs1_1)) → ip sc call 59 MC MS Q 46 [some (.ref r_0), some (.ref r_1), some (.ref r_2), some (.int x_3), some (.int x_4), some (.int x_5)] [] h z c s) : ip sc call 59 MC MS Q 35 [some (.ref r_0), some (.ref r_1), some (.ref r_2), some (.int x_3), some (.int x_4), some (.int x_5)] [] h z c s := by
  refine jp_load (pc2 := 37) (n := 5) rfl rfl rfl rfl ?_
  refine jp_load (pc2 := 38) (n := 3) rfl rfl rfl rfl ?_
  refine jp_load (pc2 := 39) (n := 2) rfl rfl rfl rfl ?_
  refine jp_getf (pc2 := 42) rfl rfl e2 e3 ?_
  refine jp_bin (pc2 := 43) (v := x_3 + v_fs1_1) rfl rfl rfl ?_
  exact jp_icmp (pc2 := 46) rfl rfl K1 K2
theorem b59_46 {r_0 : Nat} {r_1 : Nat} {r_2 : Nat} {x_3 : Int32} {x_4 : Int32} {x_5 : Int32} {fs1 : List Value} {v_fs1_2 : Int32} {fs4 : List Value} {P : ipQ} (e2 : h r_2 = some (.inr (2, fs1))) (e3 : fs1[2]? = some (.int v_fs1_2)) (e5 : h r_1 = some (.inr (6, fs4))) (m6 : c ≤ MC) (m7 : s ≤ MS) (hc : call 58 [(.ref r_1), (.int x_5), (.int v_fs1_2)] h z 0 0 P) (K : ∀ (o : Option Value) (h2 : HP) (z2 : Nat), P o h2 z2 → ip sc call 59 MC MS Q 64 [some (.ref r_0), some (.ref r_1), some (.ref r_2), some (.int x_3), some (.int x_4), some (.int x_5)] (o.toList ++ [(.int v_fs1_2), (.int x_5), (.ref r_1), (.ref r_0)]) h2 z2 c s) : ip sc call 59 MC MS Q 46 [some (.ref r_0), some (.ref r_1), some (.ref r_2), some (.int x_3), some (.int x_4), some (.int x_5)] [] h z c s := by
  refine jp_load (pc2 := 47) (n := 0) rfl rfl rfl rfl ?_
  refine jp_load (pc2 := 48) (n := 1) rfl rfl rfl rfl ?_
  refine jp_load (pc2 := 50) (n := 5) rfl rfl rfl rfl ?_
  refine jp_load (pc2 := 51) (n := 2) rfl rfl rfl rfl ?_
  refine jp_getf (pc2 := 54) rfl rfl e2 e3 ?_
  refine jp_load (pc2 := 55) (n := 1) rfl rfl rfl rfl ?_
  refine jp_load (pc2 := 57) (n := 5) rfl rfl rfl rfl ?_
  refine jp_load (pc2 := 58) (n := 2) rfl rfl rfl rfl ?_
  refine jp_getf (pc2 := 61) rfl rfl e2 e3 ?_
  exact jp_virt0 (pc2 := 64) (As := [(.int x_5), (.int v_fs1_2)]) (rest := [(.int v_fs1_2), (.int x_5), (.ref r_1), (.ref r_0)]) rfl rfl rfl (Nat.le_of_ble_eq_true rfl) e5 m6 m7 hc rfl K
theorem b59_64 {r_0 : Nat} {r_1 : Nat} {r_2 : Nat} {x_3 : Int32} {x_4 : Int32} {x_5 : Int32} {sr_0 : Nat} {sr_1 : Nat} {sx_2 : Int32} {sx_3 : Int32} {sx_4 : Int32} {fs1 : List Value} {P : ipQ} (e2 : h sr_0 = some (.inr (6, fs1))) (m3 : c ≤ MC) (m4 : s ≤ MS) (hc : call 57 [(.ref sr_0), (.ref sr_1), (.int sx_2), (.int sx_3), (.int sx_4)] h z 0 0 P) (K : ∀ (o : Option Value) (h2 : HP) (z2 : Nat), P o h2 z2 → ip sc call 59 MC MS Q 67 [some (.ref r_0), some (.ref r_1), some (.ref r_2), some (.int x_3), some (.int x_4), some (.int x_5)] (o.toList ++ []) h2 z2 c s) : ip sc call 59 MC MS Q 64 [some (.ref r_0), some (.ref r_1), some (.ref r_2), some (.int x_3), some (.int x_4), some (.int x_5)] [(.int sx_4), (.int sx_3), (.int sx_2), (.ref sr_1), (.ref sr_0)] h z c s := by
  exact jp_virt0 (pc2 := 67) (As := [(.ref sr_1), (.int sx_2), (.int sx_3), (.int sx_4)]) (rest := []) rfl rfl rfl (Nat.le_of_ble_eq_true rfl) e2 m3 m4 hc rfl K
theorem b59_67 {r_0 : Nat} {r_1 : Nat} {r_2 : Nat} {x_3 : Int32} {x_4 : Int32} {x_5 : Int32} {fs1 : List Value} {P : ipQ} (e2 : h r_0 = some (.inr (6, fs1))) (m3 : c ≤ MC) (m4 : s ≤ MS) (hc : call 61 [(.ref r_0), (.int x_4)] h z 0 0 P) (K : ∀ (o : Option Value) (h2 : HP) (z2 : Nat), P o h2 z2 → ip sc call 59 MC MS Q 73 [some (.ref r_0), some (.ref r_1), some (.ref r_2), some (.int x_3), some (.int x_4), some (.int x_5)] (o.toList ++ []) h2 z2 c s) : ip sc call 59 MC MS Q 67 [some (.ref r_0), some (.ref r_1), some (.ref r_2), some (.int x_3), some (.int x_4), some (.int x_5)] [] h z c s := by
  refine jp_load (pc2 := 68) (n := 0) rfl rfl rfl rfl ?_
  refine jp_load (pc2 := 70) (n := 4) rfl rfl rfl rfl ?_
  exact jp_virt0 (pc2 := 73) (As := [(.int x_4)]) (rest := []) rfl rfl rfl (Nat.le_of_ble_eq_true rfl) e2 m3 m4 hc rfl K
theorem b59_73 {r_0 : Nat} {r_1 : Nat} {r_2 : Nat} {x_3 : Int32} {x_4 : Int32} {x_5 : Int32} {fs1 : List Value} {v_fs1_3 : Int32} {v_fs1_4 : Int32} {fs5 : List Value} {P : ipQ} (e2 : h r_2 = some (.inr (2, fs1))) (e3 : fs1[3]? = some (.int v_fs1_3)) (e4 : fs1[4]? = some (.int v_fs1_4)) (e6 : h r_1 = some (.inr (6, fs5))) (m7 : c ≤ MC) (m8 : s ≤ MS) (hc : call 58 [(.ref r_1), (.int (x_3 + v_fs1_3)), (.int v_fs1_4)] h z 0 0 P) (K : ∀ (o : Option Value) (h2 : HP) (z2 : Nat), P o h2 z2 → ip sc call 59 MC MS Q 99 [some (.ref r_0), some (.ref r_1), some (.ref r_2), some (.int x_3), some (.int x_4), some (.int x_5)] (o.toList ++ [(.int v_fs1_4), (.int (x_3 + v_fs1_3)), (.ref r_1), (.ref r_0)]) h2 z2 c s) : ip sc call 59 MC MS Q 73 [some (.ref r_0), some (.ref r_1), some (.ref r_2), some (.int x_3), some (.int x_4), some (.int x_5)] [] h z c s := by
  refine jp_load (pc2 := 74) (n := 0) rfl rfl rfl rfl ?_
  refine jp_load (pc2 := 75) (n := 1) rfl rfl rfl rfl ?_
  refine jp_load (pc2 := 76) (n := 3) rfl rfl rfl rfl ?_
  refine jp_load (pc2 := 77) (n := 2) rfl rfl rfl rfl ?_
  refine jp_getf (pc2 := 80) rfl rfl e2 e3 ?_
  refine jp_bin (pc2 := 81) (v := x_3 + v_fs1_3) rfl rfl rfl ?_
  refine jp_load (pc2 := 82) (n := 2) rfl rfl rfl rfl ?_
  refine jp_getf (pc2 := 85) rfl rfl e2 e4 ?_
  refine jp_load (pc2 := 86) (n := 1) rfl rfl rfl rfl ?_
  refine jp_load (pc2 := 87) (n := 3) rfl rfl rfl rfl ?_
  refine jp_load (pc2 := 88) (n := 2) rfl rfl rfl rfl ?_
  refine jp_getf (pc2 := 91) rfl rfl e2 e3 ?_
  refine jp_bin (pc2 := 92) (v := x_3 + v_fs1_3) rfl rfl rfl ?_
  refine jp_load (pc2 := 93) (n := 2) rfl rfl rfl rfl ?_
  refine jp_getf (pc2 := 96) rfl rfl e2 e4 ?_
  exact jp_virt0 (pc2 := 99) (As := [(.int (x_3 + v_fs1_3)), (.int v_fs1_4)]) (rest := [(.int v_fs1_4), (.int (x_3 + v_fs1_3)), (.ref r_1), (.ref r_0)]) rfl rfl rfl (Nat.le_of_ble_eq_true rfl) e6 m7 m8 hc rfl K
theorem b59_99 {r_0 : Nat} {r_1 : Nat} {r_2 : Nat} {x_3 : Int32} {x_4 : Int32} {x_5 : Int32} {sr_0 : Nat} {sr_1 : Nat} {sx_2 : Int32} {sx_3 : Int32} {sx_4 : Int32} {fs1 : List Value} {P : ipQ} (e2 : h sr_0 = some (.inr (6, fs1))) (m3 : c ≤ MC) (m4 : s ≤ MS) (hc : call 57 [(.ref sr_0), (.ref sr_1), (.int sx_2), (.int sx_3), (.int sx_4)] h z 0 0 P) (K : ∀ (o : Option Value) (h2 : HP) (z2 : Nat), P o h2 z2 → ip sc call 59 MC MS Q 102 [some (.ref r_0), some (.ref r_1), some (.ref r_2), some (.int x_3), some (.int x_4), some (.int x_5)] (o.toList ++ []) h2 z2 c s) : ip sc call 59 MC MS Q 99 [some (.ref r_0), some (.ref r_1), some (.ref r_2), some (.int x_3), some (.int x_4), some (.int x_5)] [(.int sx_4), (.int sx_3), (.int sx_2), (.ref sr_1), (.ref sr_0)] h z c s := by
  exact jp_virt0 (pc2 := 102) (As := [(.ref sr_1), (.int sx_2), (.int sx_3), (.int sx_4)]) (rest := []) rfl rfl rfl (Nat.le_of_ble_eq_true rfl) e2 m3 m4 hc rfl K
theorem b59_102 {r_0 : Nat} {r_1 : Nat} {r_2 : Nat} {x_3 : Int32} {x_4 : Int32} {x_5 : Int32} {fs1 : List Value} {P : ipQ} (e2 : h r_0 = some (.inr (6, fs1))) (m3 : c ≤ MC) (m4 : s ≤ MS) (hc : call 61 [(.ref r_0), (.int x_4)] h z 0 0 P) (K : ∀ (o : Option Value) (h2 : HP) (z2 : Nat), P o h2 z2 → ip sc call 59 MC MS Q 108 [some (.ref r_0), some (.ref r_1), some (.ref r_2), some (.int x_3), some (.int x_4), some (.int x_5)] (o.toList ++ []) h2 z2 c s) : ip sc call 59 MC MS Q 102 [some (.ref r_0), some (.ref r_1), some (.ref r_2), some (.int x_3), some (.int x_4), some (.int x_5)] [] h z c s := by
  refine jp_load (pc2 := 103) (n := 0) rfl rfl rfl rfl ?_
  refine jp_load (pc2 := 105) (n := 4) rfl rfl rfl rfl ?_
  exact jp_virt0 (pc2 := 108) (As := [(.int x_4)]) (rest := []) rfl rfl rfl (Nat.le_of_ble_eq_true rfl) e2 m3 m4 hc rfl K
theorem b59_108 {r_0 : Nat} {r_1 : Nat} {r_2 : Nat} {x_3 : Int32} {x_4 : Int32} {x_5 : Int32} {fs1 : List Value} {P : ipQ} (e2 : h r_0 = some (.inr (6, fs1))) (m3 : c ≤ MC) (m4 : s ≤ MS) (hc : call 62 [(.ref r_0)] h z 0 0 P) (K : ∀ (o : Option Value) (h2 : HP) (z2 : Nat), P o h2 z2 → ip sc call 59 MC MS Q 112 [some (.ref r_0), some (.ref r_1), some (.ref r_2), some (.int x_3), some (.int x_4), some (.int x_5)] (o.toList ++ []) h2 z2 c s) : ip sc call 59 MC MS Q 108 [some (.ref r_0), some (.ref r_1), some (.ref r_2), some (.int x_3), some (.int x_4), some (.int x_5)] [] h z c s := by
  refine jp_load (pc2 := 109) (n := 0) rfl rfl rfl rfl ?_
  exact jp_virt0 (pc2 := 112) (As := []) (rest := []) rfl rfl rfl (Nat.le_of_ble_eq_true rfl) e2 m3 m4 hc rfl K
theorem b59_112 {r_0 : Nat} {r_1 : Nat} {r_2 : Nat} {x_3 : Int32} {x_4 : Int32} {x_5 : Int32}  (K : ip sc call 59 MC MS Q 144 [some (.ref r_0), some (.ref r_1), some (.ref r_2), some (.int x_3), some (.int x_4), some (.int x_5)] [] h z c s) : ip sc call 59 MC MS Q 112 [some (.ref r_0), some (.ref r_1), some (.ref r_2), some (.int x_3), some (.int x_4), some (.int x_5)] [] h z c s := by
  refine ip_goto rfl ?_
  exact K
theorem b59_115 {r_0 : Nat} {r_1 : Nat} {r_2 : Nat} {x_3 : Int32} {x_4 : Int32} {x_5 : Int32} {fs1 : List Value} {v_fs1_3 : Int32} (e2 : h r_2 = some (.inr (2, fs1))) (e3 : fs1[3]? = some (.int v_fs1_3)) (K1 : x_5 = (x_3 + v_fs1_3) → ip sc call 59 MC MS Q 144 [some (.ref r_0), some (.ref r_1), some (.ref r_2), some (.int x_3), some (.int x_4), some (.int x_5)] [] h z c s) (K2 : ¬ (x_5 = (x_3 + v_fs1_3)) → ip sc call 59 MC MS Q 126 [some (.ref r_0), some (.ref r_1), some (.ref r_2), some (.int x_3), some (.int x_4), some (.int x_5)] [] h z c s) : ip sc call 59 MC MS Q 115 [some (.ref r_0), some (.ref r_1), some (.ref r_2), some (.int x_3), some (.int x_4), some (.int x_5)] [] h z c s := by
  refine jp_load (pc2 := 117) (n := 5) rfl rfl rfl rfl ?_
  refine jp_load (pc2 := 118) (n := 3) rfl rfl rfl rfl ?_
  refine jp_load (pc2 := 119) (n := 2) rfl rfl rfl rfl ?_
  refine jp_getf (pc2 := 122) rfl rfl e2 e3 ?_
  refine jp_bin (pc2 := 123) (v := x_3 + v_fs1_3) rfl rfl rfl ?_
  exact jp_icmp (pc2 := 126) rfl rfl K1 K2
theorem b59_126 {r_0 : Nat} {r_1 : Nat} {r_2 : Nat} {x_3 : Int32} {x_4 : Int32} {x_5 : Int32} {fs1 : List Value} {P : ipQ} (e2 : h r_1 = some (.inr (6, fs1))) (m3 : c ≤ MC) (m4 : s ≤ MS) (hc : call 41 [(.ref r_1), (.int x_5)] h z 0 0 P) (K : ∀ (o : Option Value) (h2 : HP) (z2 : Nat), P o h2 z2 → ip sc call 59 MC MS Q 137 [some (.ref r_0), some (.ref r_1), some (.ref r_2), some (.int x_3), some (.int x_4), some (.int x_5)] (o.toList ++ [(.int 0), (.int x_5), (.ref r_1), (.ref r_0)]) h2 z2 c s) : ip sc call 59 MC MS Q 126 [some (.ref r_0), some (.ref r_1), some (.ref r_2), some (.int x_3), some (.int x_4), some (.int x_5)] [] h z c s := by
  refine jp_load (pc2 := 127) (n := 0) rfl rfl rfl rfl ?_
  refine jp_load (pc2 := 128) (n := 1) rfl rfl rfl rfl ?_
  refine jp_load (pc2 := 130) (n := 5) rfl rfl rfl rfl ?_
  refine jp_con (pc2 := 131) (v := .int 0) rfl rfl rfl ?_
  refine jp_load (pc2 := 132) (n := 1) rfl rfl rfl rfl ?_
  refine jp_load (pc2 := 134) (n := 5) rfl rfl rfl rfl ?_
  exact jp_virt0 (pc2 := 137) (As := [(.int x_5)]) (rest := [(.int 0), (.int x_5), (.ref r_1), (.ref r_0)]) rfl rfl rfl (Nat.le_of_ble_eq_true rfl) e2 m3 m4 hc rfl K
theorem b59_137 {r_0 : Nat} {r_1 : Nat} {r_2 : Nat} {x_3 : Int32} {x_4 : Int32} {x_5 : Int32} {sr_0 : Nat} {sr_1 : Nat} {sx_2 : Int32} {sx_3 : Int32} {sx_4 : Int32} {fs1 : List Value} {P : ipQ} (e2 : h sr_0 = some (.inr (6, fs1))) (m3 : c ≤ MC) (m4 : s ≤ MS) (hc : call 57 [(.ref sr_0), (.ref sr_1), (.int sx_2), (.int sx_3), (.int sx_4)] h z 0 0 P) (K : ∀ (o : Option Value) (h2 : HP) (z2 : Nat), P o h2 z2 → ip sc call 59 MC MS Q 140 [some (.ref r_0), some (.ref r_1), some (.ref r_2), some (.int x_3), some (.int x_4), some (.int x_5)] (o.toList ++ []) h2 z2 c s) : ip sc call 59 MC MS Q 137 [some (.ref r_0), some (.ref r_1), some (.ref r_2), some (.int x_3), some (.int x_4), some (.int x_5)] [(.int sx_4), (.int sx_3), (.int sx_2), (.ref sr_1), (.ref sr_0)] h z c s := by
  exact jp_virt0 (pc2 := 140) (As := [(.ref sr_1), (.int sx_2), (.int sx_3), (.int sx_4)]) (rest := []) rfl rfl rfl (Nat.le_of_ble_eq_true rfl) e2 m3 m4 hc rfl K
theorem b59_140 {r_0 : Nat} {r_1 : Nat} {r_2 : Nat} {x_3 : Int32} {x_4 : Int32} {x_5 : Int32} {fs1 : List Value} {P : ipQ} (e2 : h r_0 = some (.inr (6, fs1))) (m3 : c ≤ MC) (m4 : s ≤ MS) (hc : call 62 [(.ref r_0)] h z 0 0 P) (K : ∀ (o : Option Value) (h2 : HP) (z2 : Nat), P o h2 z2 → ip sc call 59 MC MS Q 144 [some (.ref r_0), some (.ref r_1), some (.ref r_2), some (.int x_3), some (.int x_4), some (.int x_5)] (o.toList ++ []) h2 z2 c s) : ip sc call 59 MC MS Q 140 [some (.ref r_0), some (.ref r_1), some (.ref r_2), some (.int x_3), some (.int x_4), some (.int x_5)] [] h z c s := by
  refine jp_load (pc2 := 141) (n := 0) rfl rfl rfl rfl ?_
  exact jp_virt0 (pc2 := 144) (As := []) (rest := []) rfl rfl rfl (Nat.le_of_ble_eq_true rfl) e2 m3 m4 hc rfl K
theorem b59_144 {r_0 : Nat} {r_1 : Nat} {r_2 : Nat} {x_3 : Int32} {x_4 : Int32} {x_5 : Int32}  (K : ip sc call 59 MC MS Q 19 [some (.ref r_0), some (.ref r_1), some (.ref r_2), some (.int x_3), some (.int x_4), some (.int (x_5 + 1))] [] h z c s) : ip sc call 59 MC MS Q 144 [some (.ref r_0), some (.ref r_1), some (.ref r_2), some (.int x_3), some (.int x_4), some (.int x_5)] [] h z c s := by
  refine jp_iinc (pc2 := 147) (n := 5) (v := x_5 + 1) rfl rfl rfl rfl rfl ?_
  refine ip_goto rfl ?_
  exact K
theorem b59_150 {r_0 : Nat} {o_1 : Option Value} {o_2 : Option Value} {o_3 : Option Value} {o_4 : Option Value} {o_5 : Option Value} {fs1 : List Value} {P : ipQ} (e2 : h r_0 = some (.inr (6, fs1))) (m3 : c ≤ MC) (m4 : s ≤ MS) (hc : call 63 [(.ref r_0)] h z 0 0 P) (K : ∀ (o : Option Value) (h2 : HP) (z2 : Nat), P o h2 z2 → ip sc call 59 MC MS Q 154 [some (.ref r_0), o_1, o_2, o_3, o_4, o_5] (o.toList ++ []) h2 z2 c s) : ip sc call 59 MC MS Q 150 [some (.ref r_0), o_1, o_2, o_3, o_4, o_5] [] h z c s := by
  refine jp_load (pc2 := 151) (n := 0) rfl rfl rfl rfl ?_
  exact jp_virt0 (pc2 := 154) (As := []) (rest := []) rfl rfl rfl (Nat.le_of_ble_eq_true rfl) e2 m3 m4 hc rfl K
theorem b59_154 {o_0 : Option Value} {o_1 : Option Value} {o_2 : Option Value} {o_3 : Option Value} {o_4 : Option Value} {o_5 : Option Value} (q1 : Q none h z)  : ip sc call 59 MC MS Q 154 [o_0, o_1, o_2, o_3, o_4, o_5] [] h z c s := by
  exact ip_vret (st := []) rfl rfl q1
theorem b60_0 {r_0 : Nat} {r_1 : Nat} {r_2 : Nat} {x_3 : Int32} {o_4 : Option Value} {o_5 : Option Value} {o_6 : Option Value} {o_7 : Option Value} {o_8 : Option Value} {fs1 : List Value} {q_fs1_3 : Nat} {fs4 : List Value} {v_fs4_0 : Int32} {n7 : Nat} {f8 : Nat → Int32} {v_fs4_1 : Int32} {v_fs4_4 : Int32} {v_fs4_2 : Int32} (e2 : h r_1 = some (.inr (6, fs1))) (e3 : fs1[3]? = some (.ref q_fs1_3)) (e5 : h r_2 = some (.inr (2, fs4))) (e6 : fs4[0]? = some (.int v_fs4_0)) (e9 : h q_fs1_3 = some (.inl (0, n7, .inl f8))) (b10 : vp_in v_fs4_0 n7) (e11 : fs4[1]? = some (.int v_fs4_1)) (e12 : fs4[4]? = some (.int v_fs4_4)) (e13 : fs4[2]? = some (.int v_fs4_2)) (K1 : ¬ x_3 = 0 → ip sc call 60 MC MS Q 53 [some (.ref r_0), some (.ref r_1), some (.ref r_2), some (.int x_3), some (.int (f8 v_fs4_0.toNatClampNeg)), some (.int ((f8 v_fs4_0.toNatClampNeg) + v_fs4_1)), some (.int ((v_fs4_4 - v_fs4_2) + 1)), o_7, o_8] [] h z c s) (K2 : ¬ (¬ x_3 = 0) → ip sc call 60 MC MS Q 37 [some (.ref r_0), some (.ref r_1), some (.ref r_2), some (.int x_3), some (.int (f8 v_fs4_0.toNatClampNeg)), some (.int ((f8 v_fs4_0.toNatClampNeg) + v_fs4_1)), some (.int ((v_fs4_4 - v_fs4_2) + 1)), o_7, o_8] [] h z c s) : ip sc call 60 MC MS Q 0 [some (.ref r_0), some (.ref r_1), some (.ref r_2), some (.int x_3), o_4, o_5, o_6, o_7, o_8] [] h z c s := by
  refine jp_load (pc2 := 1) (n := 1) rfl rfl rfl rfl ?_
  refine jp_getf (pc2 := 4) rfl rfl e2 e3 ?_
  refine jp_load (pc2 := 5) (n := 2) rfl rfl rfl rfl ?_
  refine jp_getf (pc2 := 8) rfl rfl e5 e6 ?_
  refine jp_iald (pc2 := 9) rfl rfl e9 b10 ?_
  refine jp_store (pc2 := 11) (n := 4) rfl rfl ⟨rfl, rfl⟩ rfl (Nat.le_of_ble_eq_true rfl) ?_
  refine jp_load (pc2 := 13) (n := 4) rfl rfl rfl rfl ?_
  refine jp_load (pc2 := 14) (n := 2) rfl rfl rfl rfl ?_
  refine jp_getf (pc2 := 17) rfl rfl e5 e11 ?_
  refine jp_bin (pc2 := 18) (v := (f8 v_fs4_0.toNatClampNeg) + v_fs4_1) rfl rfl rfl ?_
  refine jp_store (pc2 := 20) (n := 5) rfl rfl ⟨rfl, rfl⟩ rfl (Nat.le_of_ble_eq_true rfl) ?_
  refine jp_load (pc2 := 21) (n := 2) rfl rfl rfl rfl ?_
  refine jp_getf (pc2 := 24) rfl rfl e5 e12 ?_
  refine jp_load (pc2 := 25) (n := 2) rfl rfl rfl rfl ?_
  refine jp_getf (pc2 := 28) rfl rfl e5 e13 ?_
  refine jp_bin (pc2 := 29) (v := v_fs4_4 - v_fs4_2) rfl rfl rfl ?_
  refine jp_con (pc2 := 30) (v := .int 1) rfl rfl rfl ?_
  refine jp_bin (pc2 := 31) (v := (v_fs4_4 - v_fs4_2) + 1) rfl rfl rfl ?_
  refine jp_store (pc2 := 33) (n := 6) rfl rfl ⟨rfl, rfl⟩ rfl (Nat.le_of_ble_eq_true rfl) ?_
  refine jp_load (pc2 := 34) (n := 3) rfl rfl rfl rfl ?_
  exact jp_if0 (pc2 := 37) rfl rfl K1 K2
theorem b60_37 {r_0 : Nat} {r_1 : Nat} {r_2 : Nat} {x_3 : Int32} {x_4 : Int32} {x_5 : Int32} {x_6 : Int32} {o_7 : Option Value} {o_8 : Option Value} {fs1 : List Value} {v_fs1_2 : Int32} {fs4 : List Value} {P : ipQ} (e2 : h r_2 = some (.inr (2, fs1))) (e3 : fs1[2]? = some (.int v_fs1_2)) (e5 : h r_0 = some (.inr (6, fs4))) (m6 : c ≤ MC) (m7 : s ≤ MS) (hc : call 57 [(.ref r_0), (.ref r_1), (.int x_5), (.int v_fs1_2), (.int x_6)] h z 0 0 P) (K : ∀ (o : Option Value) (h2 : HP) (z2 : Nat), P o h2 z2 → ip sc call 60 MC MS Q 50 [some (.ref r_0), some (.ref r_1), some (.ref r_2), some (.int x_3), some (.int x_4), some (.int x_5), some (.int x_6), o_7, o_8] (o.toList ++ []) h2 z2 c s) : ip sc call 60 MC MS Q 37 [some (.ref r_0), some (.ref r_1), some (.ref r_2), some (.int x_3), some (.int x_4), some (.int x_5), some (.int x_6), o_7, o_8] [] h z c s := by
  refine jp_load (pc2 := 38) (n := 0) rfl rfl rfl rfl ?_
  refine jp_load (pc2 := 39) (n := 1) rfl rfl rfl rfl ?_
  refine jp_load (pc2 := 41) (n := 5) rfl rfl rfl rfl ?_
  refine jp_load (pc2 := 42) (n := 2) rfl rfl rfl rfl ?_
  refine jp_getf (pc2 := 45) rfl rfl e2 e3 ?_
  refine jp_load (pc2 := 47) (n := 6) rfl rfl rfl rfl ?_
  exact jp_virt0 (pc2 := 50) (As := [(.ref r_1), (.int x_5), (.int v_fs1_2), (.int x_6)]) (rest := []) rfl rfl rfl (Nat.le_of_ble_eq_true rfl) e5 m6 m7 hc rfl K
theorem b60_50 {r_0 : Nat} {r_1 : Nat} {r_2 : Nat} {x_3 : Int32} {x_4 : Int32} {x_5 : Int32} {o_6 : Option Value} {o_7 : Option Value} {o_8 : Option Value}  (K : ip sc call 60 MC MS Q 79 [some (.ref r_0), some (.ref r_1), some (.ref r_2), some (.int x_3), some (.int x_4), some (.int x_5), o_6, o_7, o_8] [] h z c s) : ip sc call 60 MC MS Q 50 [some (.ref r_0), some (.ref r_1), some (.ref r_2), some (.int x_3), some (.int x_4), some (.int x_5), o_6, o_7, o_8] [] h z c s := by
  refine ip_goto rfl ?_
  exact K
theorem b60_53 {r_0 : Nat} {r_1 : Nat} {r_2 : Nat} {x_3 : Int32} {x_4 : Int32} {x_5 : Int32} {x_6 : Int32} {o_7 : Option Value} {o_8 : Option Value} {fs1 : List Value} {v_fs1_4 : Int32} {v_fs1_2 : Int32} {fs5 : List Value} {P : ipQ} (e2 : h r_2 = some (.inr (2, fs1))) (e3 : fs1[4]? = some (.int v_fs1_4)) (e4 : fs1[2]? = some (.int v_fs1_2)) (e6 : h r_1 = some (.inr (6, fs5))) (m7 : c ≤ MC) (m8 : s ≤ MS) (hc : call 58 [(.ref r_1), (.int x_5), (.int v_fs1_2)] h z 0 0 P) (K : ∀ (o : Option Value) (h2 : HP) (z2 : Nat), P o h2 z2 → ip sc call 60 MC MS Q 71 [some (.ref r_0), some (.ref r_1), some (.ref r_2), some (.int x_3), some (.int x_4), some (.int x_5), some (.int x_6), o_7, o_8] (o.toList ++ [(.int v_fs1_4), (.int x_5), (.ref r_1), (.ref r_0)]) h2 z2 c s) : ip sc call 60 MC MS Q 53 [some (.ref r_0), some (.ref r_1), some (.ref r_2), some (.int x_3), some (.int x_4), some (.int x_5), some (.int x_6), o_7, o_8] [] h z c s := by
  refine jp_load (pc2 := 54) (n := 0) rfl rfl rfl rfl ?_
  refine jp_load (pc2 := 55) (n := 1) rfl rfl rfl rfl ?_
  refine jp_load (pc2 := 57) (n := 5) rfl rfl rfl rfl ?_
  refine jp_load (pc2 := 58) (n := 2) rfl rfl rfl rfl ?_
  refine jp_getf (pc2 := 61) rfl rfl e2 e3 ?_
  refine jp_load (pc2 := 62) (n := 1) rfl rfl rfl rfl ?_
  refine jp_load (pc2 := 64) (n := 5) rfl rfl rfl rfl ?_
  refine jp_load (pc2 := 65) (n := 2) rfl rfl rfl rfl ?_
  refine jp_getf (pc2 := 68) rfl rfl e2 e4 ?_
  exact jp_virt0 (pc2 := 71) (As := [(.int x_5), (.int v_fs1_2)]) (rest := [(.int v_fs1_4), (.int x_5), (.ref r_1), (.ref r_0)]) rfl rfl rfl (Nat.le_of_ble_eq_true rfl) e6 m7 m8 hc rfl K
theorem b60_71 {r_0 : Nat} {r_1 : Nat} {r_2 : Nat} {x_3 : Int32} {x_4 : Int32} {x_5 : Int32} {x_6 : Int32} {o_7 : Option Value} {o_8 : Option Value} {sr_0 : Nat} {sr_1 : Nat} {sx_2 : Int32} {sx_3 : Int32} {sx_4 : Int32} {fs1 : List Value} {P : ipQ} (e2 : h sr_0 = some (.inr (6, fs1))) (m3 : c ≤ MC) (m4 : s ≤ MS) (hc : call 57 [(.ref sr_0), (.ref sr_1), (.int sx_2), (.int sx_3), (.int ((sx_4 - x_6) + 1))] h z 0 0 P) (K : ∀ (o : Option Value) (h2 : HP) (z2 : Nat), P o h2 z2 → ip sc call 60 MC MS Q 79 [some (.ref r_0), some (.ref r_1), some (.ref r_2), some (.int x_3), some (.int x_4), some (.int x_5), some (.int x_6), o_7, o_8] (o.toList ++ []) h2 z2 c s) : ip sc call 60 MC MS Q 71 [some (.ref r_0), some (.ref r_1), some (.ref r_2), some (.int x_3), some (.int x_4), some (.int x_5), some (.int x_6), o_7, o_8] [(.int sx_4), (.int sx_3), (.int sx_2), (.ref sr_1), (.ref sr_0)] h z c s := by
  refine jp_load (pc2 := 73) (n := 6) rfl rfl rfl rfl ?_
  refine jp_bin (pc2 := 74) (v := sx_4 - x_6) rfl rfl rfl ?_
  refine jp_con (pc2 := 75) (v := .int 1) rfl rfl rfl ?_
  refine jp_bin (pc2 := 76) (v := (sx_4 - x_6) + 1) rfl rfl rfl ?_
  exact jp_virt0 (pc2 := 79) (As := [(.ref sr_1), (.int sx_2), (.int sx_3), (.int ((sx_4 - x_6) + 1))]) (rest := []) rfl rfl rfl (Nat.le_of_ble_eq_true rfl) e2 m3 m4 hc rfl K
theorem b60_79 {r_0 : Nat} {r_1 : Nat} {r_2 : Nat} {x_3 : Int32} {x_4 : Int32} {x_5 : Int32} {o_6 : Option Value} {o_7 : Option Value} {o_8 : Option Value} {fs1 : List Value} {v_fs1_8 : Int32} {fs4 : List Value} {P : ipQ} (e2 : h r_1 = some (.inr (6, fs1))) (e3 : fs1[8]? = some (.int v_fs1_8)) (e5 : h r_0 = some (.inr (6, fs4))) (m6 : c ≤ MC) (m7 : s ≤ MS) (hc : call 61 [(.ref r_0), (.int v_fs1_8)] h z 0 0 P) (K : ∀ (o : Option Value) (h2 : HP) (z2 : Nat), P o h2 z2 → ip sc call 60 MC MS Q 87 [some (.ref r_0), some (.ref r_1), some (.ref r_2), some (.int x_3), some (.int x_4), some (.int x_5), o_6, o_7, o_8] (o.toList ++ []) h2 z2 c s) : ip sc call 60 MC MS Q 79 [some (.ref r_0), some (.ref r_1), some (.ref r_2), some (.int x_3), some (.int x_4), some (.int x_5), o_6, o_7, o_8] [] h z c s := by
  refine jp_load (pc2 := 80) (n := 0) rfl rfl rfl rfl ?_
  refine jp_load (pc2 := 81) (n := 1) rfl rfl rfl rfl ?_
  refine jp_getf (pc2 := 84) rfl rfl e2 e3 ?_
  exact jp_virt0 (pc2 := 87) (As := [(.int v_fs1_8)]) (rest := []) rfl rfl rfl (Nat.le_of_ble_eq_true rfl) e5 m6 m7 hc rfl K
theorem b60_87 {r_0 : Nat} {r_1 : Nat} {r_2 : Nat} {x_3 : Int32} {x_4 : Int32} {x_5 : Int32} {o_6 : Option Value} {o_7 : Option Value} {o_8 : Option Value} {fs1 : List Value} {P : ipQ} (e2 : h r_0 = some (.inr (6, fs1))) (m3 : c ≤ MC) (m4 : s ≤ MS) (hc : call 62 [(.ref r_0)] h z 0 0 P) (K : ∀ (o : Option Value) (h2 : HP) (z2 : Nat), P o h2 z2 → ip sc call 60 MC MS Q 91 [some (.ref r_0), some (.ref r_1), some (.ref r_2), some (.int x_3), some (.int x_4), some (.int x_5), o_6, o_7, o_8] (o.toList ++ []) h2 z2 c s) : ip sc call 60 MC MS Q 87 [some (.ref r_0), some (.ref r_1), some (.ref r_2), some (.int x_3), some (.int x_4), some (.int x_5), o_6, o_7, o_8] [] h z c s := by
  refine jp_load (pc2 := 88) (n := 0) rfl rfl rfl rfl ?_
  exact jp_virt0 (pc2 := 91) (As := []) (rest := []) rfl rfl rfl (Nat.le_of_ble_eq_true rfl) e2 m3 m4 hc rfl K
theorem b60_91 {r_0 : Nat} {r_1 : Nat} {r_2 : Nat} {x_3 : Int32} {x_4 : Int32} {x_5 : Int32} {o_6 : Option Value} {o_7 : Option Value} {o_8 : Option Value} {fs1 : List Value} {v_fs1_5 : Int32} (e2 : h r_2 = some (.inr (2, fs1))) (e3 : fs1[5]? = some (.int v_fs1_5)) (k4 : ip2 o_6 = false) (K : ip sc call 60 MC MS Q 101 [some (.ref r_0), some (.ref r_1), some (.ref r_2), some (.int x_3), some (.int x_4), some (.int x_5), o_6, some (.int v_fs1_5), some (.int x_4)] [] h z c s) : ip sc call 60 MC MS Q 91 [some (.ref r_0), some (.ref r_1), some (.ref r_2), some (.int x_3), some (.int x_4), some (.int x_5), o_6, o_7, o_8] [] h z c s := by
  refine jp_load (pc2 := 92) (n := 2) rfl rfl rfl rfl ?_
  refine jp_getf (pc2 := 95) rfl rfl e2 e3 ?_
  refine jp_store (pc2 := 97) (n := 7) rfl rfl ⟨rfl, rfl⟩ k4 (Nat.le_of_ble_eq_true rfl) ?_
  refine jp_load (pc2 := 99) (n := 4) rfl rfl rfl rfl ?_
  refine jp_store (pc2 := 101) (n := 8) rfl rfl ⟨rfl, rfl⟩ rfl (Nat.le_of_ble_eq_true rfl) ?_
  exact K
theorem b60_101 {r_0 : Nat} {r_1 : Nat} {r_2 : Nat} {x_3 : Int32} {o_4 : Option Value} {x_5 : Int32} {o_6 : Option Value} {x_7 : Int32} {x_8 : Int32} {fs1 : List Value} {q_fs1_3 : Nat} {fs4 : List Value} {v_fs4_0 : Int32} {n7 : Nat} {f8 : Nat → Int32} (e2 : h r_1 = some (.inr (6, fs1))) (e3 : fs1[3]? = some (.ref q_fs1_3)) (e5 : h r_2 = some (.inr (2, fs4))) (e6 : fs4[0]? = some (.int v_fs4_0)) (e9 : h q_fs1_3 = some (.inl (0, n7, .inl f8))) (b10 : vp_in (v_fs4_0 + 1) n7) (K1 : (f8 (v_fs4_0 + 1).toNatClampNeg) ≤ x_8 → ip sc call 60 MC MS Q 162 [some (.ref r_0), some (.ref r_1), some (.ref r_2), some (.int x_3), o_4, some (.int x_5), o_6, some (.int x_7), some (.int x_8)] [] h z c s) (K2 : ¬ ((f8 (v_fs4_0 + 1).toNatClampNeg) ≤ x_8) → ip sc call 60 MC MS Q 117 [some (.ref r_0), some (.ref r_1), some (.ref r_2), some (.int x_3), o_4, some (.int x_5), o_6, some (.int x_7), some (.int x_8)] [] h z c s) : ip sc call 60 MC MS Q 101 [some (.ref r_0), some (.ref r_1), some (.ref r_2), some (.int x_3), o_4, some (.int x_5), o_6, some (.int x_7), some (.int x_8)] [] h z c s := by
  refine jp_load (pc2 := 103) (n := 8) rfl rfl rfl rfl ?_
  refine jp_load (pc2 := 104) (n := 1) rfl rfl rfl rfl ?_
  refine jp_getf (pc2 := 107) rfl rfl e2 e3 ?_
  refine jp_load (pc2 := 108) (n := 2) rfl rfl rfl rfl ?_
  refine jp_getf (pc2 := 111) rfl rfl e5 e6 ?_
  refine jp_con (pc2 := 112) (v := .int 1) rfl rfl rfl ?_
  refine jp_bin (pc2 := 113) (v := v_fs4_0 + 1) rfl rfl rfl ?_
  refine jp_iald (pc2 := 114) rfl rfl e9 b10 ?_
  exact jp_icmp (pc2 := 117) rfl rfl K1 K2
theorem b60_117 {r_0 : Nat} {r_1 : Nat} {r_2 : Nat} {x_3 : Int32} {o_4 : Option Value} {x_5 : Int32} {o_6 : Option Value} {x_7 : Int32} {x_8 : Int32}  (K1 : x_8 = x_5 → ip sc call 60 MC MS Q 156 [some (.ref r_0), some (.ref r_1), some (.ref r_2), some (.int x_3), o_4, some (.int x_5), o_6, some (.int x_7), some (.int x_8)] [] h z c s) (K2 : ¬ (x_8 = x_5) → ip sc call 60 MC MS Q 124 [some (.ref r_0), some (.ref r_1), some (.ref r_2), some (.int x_3), o_4, some (.int x_5), o_6, some (.int x_7), some (.int x_8)] [] h z c s) : ip sc call 60 MC MS Q 117 [some (.ref r_0), some (.ref r_1), some (.ref r_2), some (.int x_3), o_4, some (.int x_5), o_6, some (.int x_7), some (.int x_8)] [] h z c s := by
  refine jp_load (pc2 := 119) (n := 8) rfl rfl rfl rfl ?_
  refine jp_load (pc2 := 121) (n := 5) rfl rfl rfl rfl ?_
  exact jp_icmp (pc2 := 124) rfl rfl K1 K2
theorem b60_124 {r_0 : Nat} {r_1 : Nat} {r_2 : Nat} {x_3 : Int32} {o_4 : Option Value} {x_5 : Int32} {o_6 : Option Value} {x_7 : Int32} {x_8 : Int32}  (K1 : ¬ (x_7 &&& 1) = x_3 → ip sc call 60 MC MS Q 150 [some (.ref r_0), some (.ref r_1), some (.ref r_2), some (.int x_3), o_4, some (.int x_5), o_6, some (.int x_7), some (.int x_8)] [] h z c s) (K2 : ¬ (¬ (x_7 &&& 1) = x_3) → ip sc call 60 MC MS Q 132 [some (.ref r_0), some (.ref r_1), some (.ref r_2), some (.int x_3), o_4, some (.int x_5), o_6, some (.int x_7), some (.int x_8)] [] h z c s) : ip sc call 60 MC MS Q 124 [some (.ref r_0), some (.ref r_1), some (.ref r_2), some (.int x_3), o_4, some (.int x_5), o_6, some (.int x_7), some (.int x_8)] [] h z c s := by
  refine jp_load (pc2 := 126) (n := 7) rfl rfl rfl rfl ?_
  refine jp_con (pc2 := 127) (v := .int 1) rfl rfl rfl ?_
  refine jp_bin (pc2 := 128) (v := x_7 &&& 1) rfl rfl rfl ?_
  refine jp_load (pc2 := 129) (n := 3) rfl rfl rfl rfl ?_
  exact jp_icmp (pc2 := 132) rfl rfl K1 K2
theorem b60_132 {r_0 : Nat} {r_1 : Nat} {r_2 : Nat} {x_3 : Int32} {o_4 : Option Value} {x_5 : Int32} {o_6 : Option Value} {x_7 : Int32} {x_8 : Int32} {fs1 : List Value} {P : ipQ} (e2 : h r_1 = some (.inr (6, fs1))) (m3 : c ≤ MC) (m4 : s ≤ MS) (hc : call 41 [(.ref r_1), (.int x_8)] h z 0 0 P) (K : ∀ (o : Option Value) (h2 : HP) (z2 : Nat), P o h2 z2 → ip sc call 60 MC MS Q 143 [some (.ref r_0), some (.ref r_1), some (.ref r_2), some (.int x_3), o_4, some (.int x_5), o_6, some (.int x_7), some (.int x_8)] (o.toList ++ [(.int 0), (.int x_8), (.ref r_1), (.ref r_0)]) h2 z2 c s) : ip sc call 60 MC MS Q 132 [some (.ref r_0), some (.ref r_1), some (.ref r_2), some (.int x_3), o_4, some (.int x_5), o_6, some (.int x_7), some (.int x_8)] [] h z c s := by
  refine jp_load (pc2 := 133) (n := 0) rfl rfl rfl rfl ?_
  refine jp_load (pc2 := 134) (n := 1) rfl rfl rfl rfl ?_
  refine jp_load (pc2 := 136) (n := 8) rfl rfl rfl rfl ?_
  refine jp_con (pc2 := 137) (v := .int 0) rfl rfl rfl ?_
  refine jp_load (pc2 := 138) (n := 1) rfl rfl rfl rfl ?_
  refine jp_load (pc2 := 140) (n := 8) rfl rfl rfl rfl ?_
  exact jp_virt0 (pc2 := 143) (As := [(.int x_8)]) (rest := [(.int 0), (.int x_8), (.ref r_1), (.ref r_0)]) rfl rfl rfl (Nat.le_of_ble_eq_true rfl) e2 m3 m4 hc rfl K
theorem b60_143 {r_0 : Nat} {r_1 : Nat} {r_2 : Nat} {x_3 : Int32} {o_4 : Option Value} {x_5 : Int32} {o_6 : Option Value} {x_7 : Int32} {x_8 : Int32} {sr_0 : Nat} {sr_1 : Nat} {sx_2 : Int32} {sx_3 : Int32} {sx_4 : Int32} {fs1 : List Value} {P : ipQ} (e2 : h sr_0 = some (.inr (6, fs1))) (m3 : c ≤ MC) (m4 : s ≤ MS) (hc : call 57 [(.ref sr_0), (.ref sr_1), (.int sx_2), (.int sx_3), (.int sx_4)] h z 0 0 P) (K : ∀ (o : Option Value) (h2 : HP) (z2 : Nat), P o h2 z2 → ip sc call 60 MC MS Q 146 [some (.ref r_0), some (.ref r_1), some (.ref r_2), some (.int x_3), o_4, some (.int x_5), o_6, some (.int x_7), some (.int x_8)] (o.toList ++ []) h2 z2 c s) : ip sc call 60 MC MS Q 143 [some (.ref r_0), some (.ref r_1), some (.ref r_2), some (.int x_3), o_4, some (.int x_5), o_6, some (.int x_7), some (.int x_8)] [(.int sx_4), (.int sx_3), (.int sx_2), (.ref sr_1), (.ref sr_0)] h z c s := by
  exact jp_virt0 (pc2 := 146) (As := [(.ref sr_1), (.int sx_2), (.int sx_3), (.int sx_4)]) (rest := []) rfl rfl rfl (Nat.le_of_ble_eq_true rfl) e2 m3 m4 hc rfl K
theorem b60_146 {r_0 : Nat} {r_1 : Nat} {r_2 : Nat} {x_3 : Int32} {o_4 : Option Value} {x_5 : Int32} {o_6 : Option Value} {x_7 : Int32} {x_8 : Int32} {fs1 : List Value} {P : ipQ} (e2 : h r_0 = some (.inr (6, fs1))) (m3 : c ≤ MC) (m4 : s ≤ MS) (hc : call 62 [(.ref r_0)] h z 0 0 P) (K : ∀ (o : Option Value) (h2 : HP) (z2 : Nat), P o h2 z2 → ip sc call 60 MC MS Q 150 [some (.ref r_0), some (.ref r_1), some (.ref r_2), some (.int x_3), o_4, some (.int x_5), o_6, some (.int x_7), some (.int x_8)] (o.toList ++ []) h2 z2 c s) : ip sc call 60 MC MS Q 146 [some (.ref r_0), some (.ref r_1), some (.ref r_2), some (.int x_3), o_4, some (.int x_5), o_6, some (.int x_7), some (.int x_8)] [] h z c s := by
  refine jp_load (pc2 := 147) (n := 0) rfl rfl rfl rfl ?_
  exact jp_virt0 (pc2 := 150) (As := []) (rest := []) rfl rfl rfl (Nat.le_of_ble_eq_true rfl) e2 m3 m4 hc rfl K
theorem b60_150 {r_0 : Nat} {r_1 : Nat} {r_2 : Nat} {x_3 : Int32} {o_4 : Option Value} {x_5 : Int32} {o_6 : Option Value} {x_7 : Int32} {x_8 : Int32} (k1 : ip2 o_6 = false) (K : ip sc call 60 MC MS Q 156 [some (.ref r_0), some (.ref r_1), some (.ref r_2), some (.int x_3), o_4, some (.int x_5), o_6, some (.int (x_7 >>> (1 &&& 31))), some (.int x_8)] [] h z c s) : ip sc call 60 MC MS Q 150 [some (.ref r_0), some (.ref r_1), some (.ref r_2), some (.int x_3), o_4, some (.int x_5), o_6, some (.int x_7), some (.int x_8)] [] h z c s := by
  refine jp_load (pc2 := 152) (n := 7) rfl rfl rfl rfl ?_
  refine jp_con (pc2 := 153) (v := .int 1) rfl rfl rfl ?_
  refine jp_bin (pc2 := 154) (v := x_7 >>> (1 &&& 31)) rfl rfl rfl ?_
  refine jp_store (pc2 := 156) (n := 7) rfl rfl ⟨rfl, rfl⟩ k1 (Nat.le_of_ble_eq_true rfl) ?_
  exact K
theorem b60_156 {r_0 : Nat} {r_1 : Nat} {r_2 : Nat} {x_3 : Int32} {o_4 : Option Value} {x_5 : Int32} {o_6 : Option Value} {x_7 : Int32} {x_8 : Int32}  (K : ip sc call 60 MC MS Q 101 [some (.ref r_0), some (.ref r_1), some (.ref r_2), some (.int x_3), o_4, some (.int x_5), o_6, some (.int x_7), some (.int (x_8 + 1))] [] h z c s) : ip sc call 60 MC MS Q 156 [some (.ref r_0), some (.ref r_1), some (.ref r_2), some (.int x_3), o_4, some (.int x_5), o_6, some (.int x_7), some (.int x_8)] [] h z c s := by
  refine jp_iinc (pc2 := 159) (n := 8) (v := x_8 + 1) rfl rfl rfl rfl rfl ?_
  refine ip_goto rfl ?_
  exact K
theorem b60_162 {r_0 : Nat} {o_1 : Option Value} {o_2 : Option Value} {o_3 : Option Value} {o_4 : Option Value} {o_5 : Option Value} {o_6 : Option Value} {o_7 : Option Value} {o_8 : Option Value} {fs1 : List Value} {P : ipQ} (e2 : h r_0 = some (.inr (6, fs1))) (m3 : c ≤ MC) (m4 : s ≤ MS) (hc : call 63 [(.ref r_0)] h z 0 0 P) (K : ∀ (o : Option Value) (h2 : HP) (z2 : Nat), P o h2 z2 → ip sc call 60 MC MS Q 166 [some (.ref r_0), o_1, o_2, o_3, o_4, o_5, o_6, o_7, o_8] (o.toList ++ []) h2 z2 c s) : ip sc call 60 MC MS Q 162 [some (.ref r_0), o_1, o_2, o_3, o_4, o_5, o_6, o_7, o_8] [] h z c s := by
  refine jp_load (pc2 := 163) (n := 0) rfl rfl rfl rfl ?_
  exact jp_virt0 (pc2 := 166) (As := []) (rest := []) rfl rfl rfl (Nat.le_of_ble_eq_true rfl) e2 m3 m4 hc rfl K
theorem b60_166 {o_0 : Option Value} {o_1 : Option Value} {o_2 : Option Value} {o_3 : Option Value} {o_4 : Option Value} {o_5 : Option Value} {o_6 : Option Value} {o_7 : Option Value} {o_8 : Option Value} (q1 : Q none h z)  : ip sc call 60 MC MS Q 166 [o_0, o_1, o_2, o_3, o_4, o_5, o_6, o_7, o_8] [] h z c s := by
  exact ip_vret (st := []) rfl rfl q1
theorem b61_0 {r_0 : Nat} {x_1 : Int32} {o_2 : Option Value} {fs1 : List Value} {v_fs1_5 : Int32} {q_fs1_2 : Nat} {v_fs1_6 : Int32} {n6 : Nat} {f7 : Nat → Int32} (e2 : h r_0 = some (.inr (6, fs1))) (e3 : fs1[5]? = some (.int v_fs1_5)) (e4 : fs1[2]? = some (.ref q_fs1_2)) (e5 : fs1[6]? = some (.int v_fs1_6)) (e8 : h q_fs1_2 = some (.inl (0, n6, .inl f7))) (b9 : vp_in v_fs1_6 n6) (K1 : v_fs1_5 ≤ (f7 v_fs1_6.toNatClampNeg) → ip sc call 61 MC MS Q 20 [some (.ref r_0), some (.int x_1), o_2] [] h z c s) (K2 : ¬ (v_fs1_5 ≤ (f7 v_fs1_6.toNatClampNeg)) → ip sc call 61 MC MS Q 16 [some (.ref r_0), some (.int x_1), o_2] [] h z c s) : ip sc call 61 MC MS Q 0 [some (.ref r_0), some (.int x_1), o_2] [] h z c s := by
  refine jp_load (pc2 := 1) (n := 0) rfl rfl rfl rfl ?_
  refine jp_getf (pc2 := 4) rfl rfl e2 e3 ?_
  refine jp_load (pc2 := 5) (n := 0) rfl rfl rfl rfl ?_
  refine jp_getf (pc2 := 8) rfl rfl e2 e4 ?_
  refine jp_load (pc2 := 9) (n := 0) rfl rfl rfl rfl ?_
  refine jp_getf (pc2 := 12) rfl rfl e2 e5 ?_
  refine jp_iald (pc2 := 13) rfl rfl e8 b9 ?_
  exact jp_icmp (pc2 := 16) rfl rfl K1 K2
theorem b61_16 {r_0 : Nat} {x_1 : Int32} {o_2 : Option Value}  (K : ip sc call 61 MC MS Q 21 [some (.ref r_0), some (.int x_1), o_2] [(.int 1)] h z c s) : ip sc call 61 MC MS Q 16 [some (.ref r_0), some (.int x_1), o_2] [] h z c s := by
  refine jp_con (pc2 := 17) (v := .int 1) rfl rfl rfl ?_
  refine ip_goto rfl ?_
  exact K
theorem b61_20 {r_0 : Nat} {x_1 : Int32} {o_2 : Option Value}  (K : ip sc call 61 MC MS Q 21 [some (.ref r_0), some (.int x_1), o_2] [(.int 0)] h z c s) : ip sc call 61 MC MS Q 20 [some (.ref r_0), some (.int x_1), o_2] [] h z c s := by
  refine jp_con (pc2 := 21) (v := .int 0) rfl rfl rfl ?_
  exact K
theorem b61_21 {r_0 : Nat} {x_1 : Int32} {o_2 : Option Value} {sx_0 : Int32} {fs1 : List Value} {v_fs1_0 : Int32} (e2 : h r_0 = some (.inr (6, fs1))) (e3 : fs1[0]? = some (.int v_fs1_0)) (K1 : v_fs1_0 = 0 → ip sc call 61 MC MS Q 58 [some (.ref r_0), some (.int x_1), some (.int sx_0)] [] h z c s) (K2 : ¬ (v_fs1_0 = 0) → ip sc call 61 MC MS Q 29 [some (.ref r_0), some (.int x_1), some (.int sx_0)] [] h z c s) : ip sc call 61 MC MS Q 21 [some (.ref r_0), some (.int x_1), o_2] [(.int sx_0)] h z c s := by
  refine jp_store (pc2 := 22) (n := 2) rfl rfl ⟨rfl, rfl⟩ rfl (Nat.le_of_ble_eq_true rfl) ?_
  refine jp_load (pc2 := 23) (n := 0) rfl rfl rfl rfl ?_
  refine jp_getf (pc2 := 26) rfl rfl e2 e3 ?_
  exact jp_if0 (pc2 := 29) rfl rfl K1 K2
theorem b61_29 {r_0 : Nat} {x_1 : Int32} {x_2 : Int32} {fs1 : List Value} {q_fs1_4 : Nat} {n4 : Nat} {f5 : Nat → Int32} (e2 : h r_0 = some (.inr (6, fs1))) (e3 : fs1[4]? = some (.ref q_fs1_4)) (e6 : h q_fs1_4 = some (.inl (0, n4, .inl f5))) (b7 : vp_in x_1 n4) (K1 : (f5 x_1.toNatClampNeg) = 0 → ip sc call 61 MC MS Q 57 [some (.ref r_0), some (.int x_1), some (.int x_2)] [] h z c s) (K2 : ¬ ((f5 x_1.toNatClampNeg) = 0) → ip sc call 61 MC MS Q 38 [some (.ref r_0), some (.int x_1), some (.int x_2)] [] h z c s) : ip sc call 61 MC MS Q 29 [some (.ref r_0), some (.int x_1), some (.int x_2)] [] h z c s := by
  refine jp_load (pc2 := 30) (n := 0) rfl rfl rfl rfl ?_
  refine jp_getf (pc2 := 33) rfl rfl e2 e3 ?_
  refine jp_load (pc2 := 34) (n := 1) rfl rfl rfl rfl ?_
  refine jp_iald (pc2 := 35) rfl rfl e6 b7 ?_
  exact jp_if0 (pc2 := 38) rfl rfl K1 K2
theorem b61_38 {r_0 : Nat} {x_1 : Int32} {x_2 : Int32}  (K1 : x_2 = 0 → ip sc call 61 MC MS Q 58 [some (.ref r_0), some (.int x_1), some (.int x_2)] [] h z c s) (K2 : ¬ (x_2 = 0) → ip sc call 61 MC MS Q 42 [some (.ref r_0), some (.int x_1), some (.int x_2)] [] h z c s) : ip sc call 61 MC MS Q 38 [some (.ref r_0), some (.int x_1), some (.int x_2)] [] h z c s := by
  refine jp_load (pc2 := 39) (n := 2) rfl rfl rfl rfl ?_
  exact jp_if0 (pc2 := 42) rfl rfl K1 K2
theorem b61_42 {r_0 : Nat} {x_1 : Int32} {o_2 : Option Value} {fs1 : List Value} {q_fs1_1 : Nat} {v_fs1_5 : Int32} {n5 : Nat} {f6 : Nat → Int32} (e2 : h r_0 = some (.inr (6, fs1))) (e3 : fs1[1]? = some (.ref q_fs1_1)) (e4 : fs1[5]? = some (.int v_fs1_5)) (e7 : h q_fs1_1 = some (.inl (0, n5, .inl f6))) (b8 : vp_in (v_fs1_5 - 1) n5) (K1 : ¬ (f6 (v_fs1_5 - 1).toNatClampNeg) = x_1 → ip sc call 61 MC MS Q 58 [some (.ref r_0), some (.int x_1), o_2] [] h z c s) (K2 : ¬ (¬ (f6 (v_fs1_5 - 1).toNatClampNeg) = x_1) → ip sc call 61 MC MS Q 57 [some (.ref r_0), some (.int x_1), o_2] [] h z c s) : ip sc call 61 MC MS Q 42 [some (.ref r_0), some (.int x_1), o_2] [] h z c s := by
  refine jp_load (pc2 := 43) (n := 0) rfl rfl rfl rfl ?_
  refine jp_getf (pc2 := 46) rfl rfl e2 e3 ?_
  refine jp_load (pc2 := 47) (n := 0) rfl rfl rfl rfl ?_
  refine jp_getf (pc2 := 50) rfl rfl e2 e4 ?_
  refine jp_con (pc2 := 51) (v := .int 1) rfl rfl rfl ?_
  refine jp_bin (pc2 := 52) (v := v_fs1_5 - 1) rfl rfl rfl ?_
  refine jp_iald (pc2 := 53) rfl rfl e7 b8 ?_
  refine jp_load (pc2 := 54) (n := 1) rfl rfl rfl rfl ?_
  exact jp_icmp (pc2 := 57) rfl rfl K1 K2
theorem b61_57 {o_0 : Option Value} {o_1 : Option Value} {o_2 : Option Value} (q1 : Q none h z)  : ip sc call 61 MC MS Q 57 [o_0, o_1, o_2] [] h z c s := by
  exact ip_vret (st := []) rfl rfl q1
theorem b61_58 {r_0 : Nat} {x_1 : Int32} {o_2 : Option Value} {fs1 : List Value} {v_fs1_5 : Int32} {q_fs1_1 : Nat} {n5 : Nat} {f6 : Nat → Int32} (e2 : h r_0 = some (.inr (6, fs1))) (e3 : fs1[5]? = some (.int v_fs1_5)) (e4 : fs1[1]? = some (.ref q_fs1_1)) (e7 : h q_fs1_1 = some (.inl (0, n5, .inl f6))) (K1 : (Int32.ofNat n5) ≤ v_fs1_5 → ip sc call 61 MC MS Q 90 [some (.ref r_0), some (.int x_1), o_2] [] h z c s) (K2 : ¬ ((Int32.ofNat n5) ≤ v_fs1_5) → ip sc call 61 MC MS Q 70 [some (.ref r_0), some (.int x_1), o_2] [] h z c s) : ip sc call 61 MC MS Q 58 [some (.ref r_0), some (.int x_1), o_2] [] h z c s := by
  refine jp_load (pc2 := 59) (n := 0) rfl rfl rfl rfl ?_
  refine jp_getf (pc2 := 62) rfl rfl e2 e3 ?_
  refine jp_load (pc2 := 63) (n := 0) rfl rfl rfl rfl ?_
  refine jp_getf (pc2 := 66) rfl rfl e2 e4 ?_
  refine jp_alen (pc2 := 67) rfl rfl e7 (by decide) ?_
  exact jp_icmp (pc2 := 70) rfl rfl K1 K2
theorem b61_70 {r_0 : Nat} {x_1 : Int32} {o_2 : Option Value} {fs1 : List Value} {q_fs1_1 : Nat} {v_fs1_5 : Int32} {n5 : Nat} {f6 : Nat → Int32} (e2 : h r_0 = some (.inr (6, fs1))) (e3 : fs1[1]? = some (.ref q_fs1_1)) (e4 : fs1[5]? = some (.int v_fs1_5)) (e7 : h q_fs1_1 = some (.inl (0, n5, .inl f6))) (b8 : vp_in v_fs1_5 n5) (n9 : r_0 ≠ q_fs1_1) (l10 : fs1.length = 11) (K : ip sc call 61 MC MS Q 90 [some (.ref r_0), some (.int x_1), o_2] [] (hup (hup h q_fs1_1 (.inl (0, n5, .inl (upd f6 v_fs1_5.toNatClampNeg x_1)))) r_0 (.inr (6, (fs1.set 5 (.int (v_fs1_5 + 1)))))) z c s) : ip sc call 61 MC MS Q 70 [some (.ref r_0), some (.int x_1), o_2] [] h z c s := by
  refine jp_load (pc2 := 71) (n := 0) rfl rfl rfl rfl ?_
  refine jp_getf (pc2 := 74) rfl rfl e2 e3 ?_
  refine jp_load (pc2 := 75) (n := 0) rfl rfl rfl rfl ?_
  refine jp_getf (pc2 := 78) rfl rfl e2 e4 ?_
  refine jp_load (pc2 := 79) (n := 1) rfl rfl rfl rfl ?_
  refine jp_iast (pc2 := 80) rfl rfl e7 b8 ?_
  refine jp_load (pc2 := 81) (n := 0) rfl rfl rfl rfl ?_
  refine jp_dup (pc2 := 82) rfl rfl rfl ?_
  refine jp_getf (pc2 := 85) rfl rfl (hup_ne n9 e2) e4 ?_
  refine jp_con (pc2 := 86) (v := .int 1) rfl rfl rfl ?_
  refine jp_bin (pc2 := 87) (v := v_fs1_5 + 1) rfl rfl rfl ?_
  refine jp_putf (pc2 := 90) rfl rfl (hup_ne n9 e2) (ln_lt l10 (by decide)) ⟨rfl, rfl⟩ ?_
  exact K
theorem b61_90 {o_0 : Option Value} {o_1 : Option Value} {o_2 : Option Value} (q1 : Q none h z)  : ip sc call 61 MC MS Q 90 [o_0, o_1, o_2] [] h z c s := by
  exact ip_vret (st := []) rfl rfl q1
theorem b62_0 {r_0 : Nat} {o_1 : Option Value} {fs1 : List Value} {q_fs1_2 : Nat} {v_fs1_6 : Int32} {n5 : Nat} {f6 : Nat → Int32} {v_fs1_0 : Int32} (e2 : h r_0 = some (.inr (6, fs1))) (e3 : fs1[2]? = some (.ref q_fs1_2)) (e4 : fs1[6]? = some (.int v_fs1_6)) (e7 : h q_fs1_2 = some (.inl (0, n5, .inl f6))) (b8 : vp_in v_fs1_6 n5) (e9 : fs1[0]? = some (.int v_fs1_0)) (K1 : v_fs1_0 = 0 → ip sc call 62 MC MS Q 66 [some (.ref r_0), some (.int (f6 v_fs1_6.toNatClampNeg))] [] h z c s) (K2 : ¬ (v_fs1_0 = 0) → ip sc call 62 MC MS Q 17 [some (.ref r_0), some (.int (f6 v_fs1_6.toNatClampNeg))] [] h z c s) : ip sc call 62 MC MS Q 0 [some (.ref r_0), o_1] [] h z c s := by
  refine jp_load (pc2 := 1) (n := 0) rfl rfl rfl rfl ?_
  refine jp_getf (pc2 := 4) rfl rfl e2 e3 ?_
  refine jp_load (pc2 := 5) (n := 0) rfl rfl rfl rfl ?_
  refine jp_getf (pc2 := 8) rfl rfl e2 e4 ?_
  refine jp_iald (pc2 := 9) rfl rfl e7 b8 ?_
  refine jp_store (pc2 := 10) (n := 1) rfl rfl ⟨rfl, rfl⟩ rfl (Nat.le_of_ble_eq_true rfl) ?_
  refine jp_load (pc2 := 11) (n := 0) rfl rfl rfl rfl ?_
  refine jp_getf (pc2 := 14) rfl rfl e2 e9 ?_
  exact jp_if0 (pc2 := 17) rfl rfl K1 K2
theorem b62_17 {r_0 : Nat} {x_1 : Int32} {fs1 : List Value} {v_fs1_5 : Int32} (e2 : h r_0 = some (.inr (6, fs1))) (e3 : fs1[5]? = some (.int v_fs1_5)) (K1 : v_fs1_5 ≤ (x_1 + 1) → ip sc call 62 MC MS Q 57 [some (.ref r_0), some (.int x_1)] [] h z c s) (K2 : ¬ (v_fs1_5 ≤ (x_1 + 1)) → ip sc call 62 MC MS Q 27 [some (.ref r_0), some (.int x_1)] [] h z c s) : ip sc call 62 MC MS Q 17 [some (.ref r_0), some (.int x_1)] [] h z c s := by
  refine jp_load (pc2 := 18) (n := 0) rfl rfl rfl rfl ?_
  refine jp_getf (pc2 := 21) rfl rfl e2 e3 ?_
  refine jp_load (pc2 := 22) (n := 1) rfl rfl rfl rfl ?_
  refine jp_con (pc2 := 23) (v := .int 1) rfl rfl rfl ?_
  refine jp_bin (pc2 := 24) (v := x_1 + 1) rfl rfl rfl ?_
  exact jp_icmp (pc2 := 27) rfl rfl K1 K2
theorem b62_27 {r_0 : Nat} {x_1 : Int32} {fs1 : List Value} {q_fs1_1 : Nat} {n4 : Nat} {f5 : Nat → Int32} {v_fs1_5 : Int32} (e2 : h r_0 = some (.inr (6, fs1))) (e3 : fs1[1]? = some (.ref q_fs1_1)) (e6 : h q_fs1_1 = some (.inl (0, n4, .inl f5))) (b7 : vp_in x_1 n4) (e8 : fs1[5]? = some (.int v_fs1_5)) (b9 : vp_in (v_fs1_5 - 1) n4) (K1 : ¬ (f5 x_1.toNatClampNeg) = (f5 (v_fs1_5 - 1).toNatClampNeg) → ip sc call 62 MC MS Q 57 [some (.ref r_0), some (.int x_1)] [] h z c s) (K2 : ¬ (¬ (f5 x_1.toNatClampNeg) = (f5 (v_fs1_5 - 1).toNatClampNeg)) → ip sc call 62 MC MS Q 47 [some (.ref r_0), some (.int x_1)] [] h z c s) : ip sc call 62 MC MS Q 27 [some (.ref r_0), some (.int x_1)] [] h z c s := by
  refine jp_load (pc2 := 28) (n := 0) rfl rfl rfl rfl ?_
  refine jp_getf (pc2 := 31) rfl rfl e2 e3 ?_
  refine jp_load (pc2 := 32) (n := 1) rfl rfl rfl rfl ?_
  refine jp_iald (pc2 := 33) rfl rfl e6 b7 ?_
  refine jp_load (pc2 := 34) (n := 0) rfl rfl rfl rfl ?_
  refine jp_getf (pc2 := 37) rfl rfl e2 e3 ?_
  refine jp_load (pc2 := 38) (n := 0) rfl rfl rfl rfl ?_
  refine jp_getf (pc2 := 41) rfl rfl e2 e8 ?_
  refine jp_con (pc2 := 42) (v := .int 1) rfl rfl rfl ?_
  refine jp_bin (pc2 := 43) (v := v_fs1_5 - 1) rfl rfl rfl ?_
  refine jp_iald (pc2 := 44) rfl rfl e6 b9 ?_
  exact jp_icmp (pc2 := 47) rfl rfl K1 K2
theorem b62_47 {r_0 : Nat} {x_1 : Int32} {fs1 : List Value} {v_fs1_5 : Int32} (e2 : h r_0 = some (.inr (6, fs1))) (e3 : fs1[5]? = some (.int v_fs1_5)) (l4 : fs1.length = 11) (K : ip sc call 62 MC MS Q 57 [some (.ref r_0), some (.int x_1)] [] (hup h r_0 (.inr (6, (fs1.set 5 (.int (v_fs1_5 - 1)))))) z c s) : ip sc call 62 MC MS Q 47 [some (.ref r_0), some (.int x_1)] [] h z c s := by
  refine jp_load (pc2 := 48) (n := 0) rfl rfl rfl rfl ?_
  refine jp_dup (pc2 := 49) rfl rfl rfl ?_
  refine jp_getf (pc2 := 52) rfl rfl e2 e3 ?_
  refine jp_con (pc2 := 53) (v := .int 1) rfl rfl rfl ?_
  refine jp_bin (pc2 := 54) (v := v_fs1_5 - 1) rfl rfl rfl ?_
  refine jp_putf (pc2 := 57) rfl rfl e2 (ln_lt l4 (by decide)) ⟨rfl, rfl⟩ ?_
  exact K
theorem b62_57 {r_0 : Nat} {x_1 : Int32} {fs1 : List Value} {v_fs1_5 : Int32} (e2 : h r_0 = some (.inr (6, fs1))) (e3 : fs1[5]? = some (.int v_fs1_5)) (K1 : ¬ v_fs1_5 = x_1 → ip sc call 62 MC MS Q 66 [some (.ref r_0), some (.int x_1)] [] h z c s) (K2 : ¬ (¬ v_fs1_5 = x_1) → ip sc call 62 MC MS Q 65 [some (.ref r_0), some (.int x_1)] [] h z c s) : ip sc call 62 MC MS Q 57 [some (.ref r_0), some (.int x_1)] [] h z c s := by
  refine jp_load (pc2 := 58) (n := 0) rfl rfl rfl rfl ?_
  refine jp_getf (pc2 := 61) rfl rfl e2 e3 ?_
  refine jp_load (pc2 := 62) (n := 1) rfl rfl rfl rfl ?_
  exact jp_icmp (pc2 := 65) rfl rfl K1 K2
theorem b62_65 {o_0 : Option Value} {o_1 : Option Value} (q1 : Q none h z)  : ip sc call 62 MC MS Q 65 [o_0, o_1] [] h z c s := by
  exact ip_vret (st := []) rfl rfl q1
theorem b62_66 {r_0 : Nat} {o_1 : Option Value} {fs1 : List Value} {v_fs1_6 : Int32} (e2 : h r_0 = some (.inr (6, fs1))) (e3 : fs1[6]? = some (.int v_fs1_6)) (K1 : (31 : Int32) ≤ v_fs1_6 → ip sc call 62 MC MS Q 98 [some (.ref r_0), o_1] [] h z c s) (K2 : ¬ ((31 : Int32) ≤ v_fs1_6) → ip sc call 62 MC MS Q 75 [some (.ref r_0), o_1] [] h z c s) : ip sc call 62 MC MS Q 66 [some (.ref r_0), o_1] [] h z c s := by
  refine jp_load (pc2 := 67) (n := 0) rfl rfl rfl rfl ?_
  refine jp_getf (pc2 := 70) rfl rfl e2 e3 ?_
  refine jp_con (pc2 := 72) (v := .int 31) rfl rfl rfl ?_
  exact jp_icmp (pc2 := 75) rfl rfl K1 K2
theorem b62_75 {r_0 : Nat} {o_1 : Option Value} {fs1 : List Value} {v_fs1_6 : Int32} {q_fs1_2 : Nat} {v_fs1_5 : Int32} {n7 : Nat} {f8 : Nat → Int32} (e2 : h r_0 = some (.inr (6, fs1))) (e3 : fs1[6]? = some (.int v_fs1_6)) (l4 : fs1.length = 11) (e5 : fs1[2]? = some (.ref q_fs1_2)) (e6 : fs1[5]? = some (.int v_fs1_5)) (e9 : h q_fs1_2 = some (.inl (0, n7, .inl f8))) (n10 : q_fs1_2 ≠ r_0) (b11 : vp_in (v_fs1_6 + 1) n7) (K : ip sc call 62 MC MS Q 98 [some (.ref r_0), o_1] [] (hup (hup h r_0 (.inr (6, (fs1.set 6 (.int (v_fs1_6 + 1)))))) q_fs1_2 (.inl (0, n7, .inl (upd f8 (v_fs1_6 + 1).toNatClampNeg v_fs1_5)))) z c s) : ip sc call 62 MC MS Q 75 [some (.ref r_0), o_1] [] h z c s := by
  refine jp_load (pc2 := 76) (n := 0) rfl rfl rfl rfl ?_
  refine jp_dup (pc2 := 77) rfl rfl rfl ?_
  refine jp_getf (pc2 := 80) rfl rfl e2 e3 ?_
  refine jp_con (pc2 := 81) (v := .int 1) rfl rfl rfl ?_
  refine jp_bin (pc2 := 82) (v := v_fs1_6 + 1) rfl rfl rfl ?_
  refine jp_putf (pc2 := 85) rfl rfl e2 (ln_lt l4 (by decide)) ⟨rfl, rfl⟩ ?_
  refine jp_load (pc2 := 86) (n := 0) rfl rfl rfl rfl ?_
  refine jp_getf (pc2 := 89) rfl rfl hup_eq (gs_ne (by decide) e5) ?_
  refine jp_load (pc2 := 90) (n := 0) rfl rfl rfl rfl ?_
  refine jp_getf (pc2 := 93) rfl rfl hup_eq (gs_eq (ln_lt l4 (by decide))) ?_
  refine jp_load (pc2 := 94) (n := 0) rfl rfl rfl rfl ?_
  refine jp_getf (pc2 := 97) rfl rfl hup_eq (gs_ne (by decide) e6) ?_
  refine jp_iast (pc2 := 98) rfl rfl (hup_ne n10 e9) b11 ?_
  exact K
theorem b62_98 {o_0 : Option Value} {o_1 : Option Value} (q1 : Q none h z)  : ip sc call 62 MC MS Q 98 [o_0, o_1] [] h z c s := by
  exact ip_vret (st := []) rfl rfl q1
theorem b63_0 {r_0 : Nat} {fs1 : List Value} {v_fs1_0 : Int32} (e2 : h r_0 = some (.inr (6, fs1))) (e3 : fs1[0]? = some (.int v_fs1_0)) (K1 : v_fs1_0 = 0 → ip sc call 63 MC MS Q 57 [some (.ref r_0)] [] h z c s) (K2 : ¬ (v_fs1_0 = 0) → ip sc call 63 MC MS Q 7 [some (.ref r_0)] [] h z c s) : ip sc call 63 MC MS Q 0 [some (.ref r_0)] [] h z c s := by
  refine jp_load (pc2 := 1) (n := 0) rfl rfl rfl rfl ?_
  refine jp_getf (pc2 := 4) rfl rfl e2 e3 ?_
  exact jp_if0 (pc2 := 7) rfl rfl K1 K2
theorem b63_7 {r_0 : Nat} {fs1 : List Value} {q_fs1_2 : Nat} {q_fs1_3 : Nat} {v_fs1_7 : Int32} {n6 : Nat} {f7 : Nat → Int32} {n10 : Nat} {f11 : Nat → Int32} {P : ipQ} (e2 : h r_0 = some (.inr (6, fs1))) (e3 : fs1[2]? = some (.ref q_fs1_2)) (e4 : fs1[3]? = some (.ref q_fs1_3)) (e5 : fs1[7]? = some (.int v_fs1_7)) (e8 : h q_fs1_3 = some (.inl (0, n6, .inl f7))) (b9 : vp_in v_fs1_7 n6) (e12 : h q_fs1_2 = some (.inl (0, n10, .inl f11))) (b13 : vp_in (f7 v_fs1_7.toNatClampNeg) n10) (m14 : c ≤ MC) (m15 : s ≤ MS) (hc : call 64 [(.ref r_0), (.int (f11 (f7 v_fs1_7.toNatClampNeg).toNatClampNeg))] h z 0 0 P) (K : ∀ (o : Option Value) (h2 : HP) (z2 : Nat), P o h2 z2 → ip sc call 63 MC MS Q 25 [some (.ref r_0)] (o.toList ++ []) h2 z2 c s) : ip sc call 63 MC MS Q 7 [some (.ref r_0)] [] h z c s := by
  refine jp_load (pc2 := 8) (n := 0) rfl rfl rfl rfl ?_
  refine jp_load (pc2 := 9) (n := 0) rfl rfl rfl rfl ?_
  refine jp_getf (pc2 := 12) rfl rfl e2 e3 ?_
  refine jp_load (pc2 := 13) (n := 0) rfl rfl rfl rfl ?_
  refine jp_getf (pc2 := 16) rfl rfl e2 e4 ?_
  refine jp_load (pc2 := 17) (n := 0) rfl rfl rfl rfl ?_
  refine jp_getf (pc2 := 20) rfl rfl e2 e5 ?_
  refine jp_iald (pc2 := 21) rfl rfl e8 b9 ?_
  refine jp_iald (pc2 := 22) rfl rfl e12 b13 ?_
  exact jp_virt0 (pc2 := 25) (As := [(.int (f11 (f7 v_fs1_7.toNatClampNeg).toNatClampNeg))]) (rest := []) rfl rfl rfl (Nat.le_of_ble_eq_true rfl) e2 m14 m15 hc rfl K
theorem b63_25 {r_0 : Nat} {sx_0 : Int32}  (K1 : ¬ sx_0 = 0 → ip sc call 63 MC MS Q 57 [some (.ref r_0)] [] h z c s) (K2 : ¬ (¬ sx_0 = 0) → ip sc call 63 MC MS Q 28 [some (.ref r_0)] [] h z c s) : ip sc call 63 MC MS Q 25 [some (.ref r_0)] [(.int sx_0)] h z c s := by
  exact jp_if0 (pc2 := 28) rfl rfl K1 K2
theorem b63_28 {r_0 : Nat} {fs1 : List Value} {q_fs1_3 : Nat} {v_fs1_7 : Int32} {n5 : Nat} {f6 : Nat → Int32} {q_fs1_2 : Nat} {n11 : Nat} {f12 : Nat → Int32} (e2 : h r_0 = some (.inr (6, fs1))) (e3 : fs1[3]? = some (.ref q_fs1_3)) (e4 : fs1[7]? = some (.int v_fs1_7)) (e7 : h q_fs1_3 = some (.inl (0, n5, .inl f6))) (b8 : vp_in v_fs1_7 n5) (l9 : fs1.length = 11) (e10 : fs1[2]? = some (.ref q_fs1_2)) (e13 : h q_fs1_2 = some (.inl (0, n11, .inl f12))) (n14 : q_fs1_2 ≠ r_0) (b15 : vp_in (f6 v_fs1_7.toNatClampNeg) n11) (K : ip sc call 63 MC MS Q 89 [some (.ref r_0)] [] (hup (hup h r_0 (.inr (6, (fs1.set 6 (.int (f6 v_fs1_7.toNatClampNeg)))))) r_0 (.inr (6, ((fs1.set 6 (.int (f6 v_fs1_7.toNatClampNeg))).set 5 (.int (f12 (f6 v_fs1_7.toNatClampNeg).toNatClampNeg)))))) z c s) : ip sc call 63 MC MS Q 28 [some (.ref r_0)] [] h z c s := by
  refine jp_load (pc2 := 29) (n := 0) rfl rfl rfl rfl ?_
  refine jp_load (pc2 := 30) (n := 0) rfl rfl rfl rfl ?_
  refine jp_getf (pc2 := 33) rfl rfl e2 e3 ?_
  refine jp_load (pc2 := 34) (n := 0) rfl rfl rfl rfl ?_
  refine jp_getf (pc2 := 37) rfl rfl e2 e4 ?_
  refine jp_iald (pc2 := 38) rfl rfl e7 b8 ?_
  refine jp_putf (pc2 := 41) rfl rfl e2 (ln_lt l9 (by decide)) ⟨rfl, rfl⟩ ?_
  refine jp_load (pc2 := 42) (n := 0) rfl rfl rfl rfl ?_
  refine jp_load (pc2 := 43) (n := 0) rfl rfl rfl rfl ?_
  refine jp_getf (pc2 := 46) rfl rfl hup_eq (gs_ne (by decide) e10) ?_
  refine jp_load (pc2 := 47) (n := 0) rfl rfl rfl rfl ?_
  refine jp_getf (pc2 := 50) rfl rfl hup_eq (gs_eq (ln_lt l9 (by decide))) ?_
  refine jp_iald (pc2 := 51) rfl rfl (hup_ne n14 e13) b15 ?_
  refine jp_putf (pc2 := 54) rfl rfl hup_eq (ls_lt (ln_lt l9 (by decide))) ⟨rfl, rfl⟩ ?_
  refine ip_goto rfl ?_
  exact K
theorem b63_57 {r_0 : Nat} {fs1 : List Value} {v_fs1_7 : Int32} (e2 : h r_0 = some (.inr (6, fs1))) (e3 : fs1[7]? = some (.int v_fs1_7)) (K1 : (24 : Int32) ≤ v_fs1_7 → ip sc call 63 MC MS Q 89 [some (.ref r_0)] [] h z c s) (K2 : ¬ ((24 : Int32) ≤ v_fs1_7) → ip sc call 63 MC MS Q 66 [some (.ref r_0)] [] h z c s) : ip sc call 63 MC MS Q 57 [some (.ref r_0)] [] h z c s := by
  refine jp_load (pc2 := 58) (n := 0) rfl rfl rfl rfl ?_
  refine jp_getf (pc2 := 61) rfl rfl e2 e3 ?_
  refine jp_con (pc2 := 63) (v := .int 24) rfl rfl rfl ?_
  exact jp_icmp (pc2 := 66) rfl rfl K1 K2
theorem b63_66 {r_0 : Nat} {fs1 : List Value} {v_fs1_7 : Int32} {q_fs1_3 : Nat} {v_fs1_6 : Int32} {n7 : Nat} {f8 : Nat → Int32} (e2 : h r_0 = some (.inr (6, fs1))) (e3 : fs1[7]? = some (.int v_fs1_7)) (l4 : fs1.length = 11) (e5 : fs1[3]? = some (.ref q_fs1_3)) (e6 : fs1[6]? = some (.int v_fs1_6)) (e9 : h q_fs1_3 = some (.inl (0, n7, .inl f8))) (n10 : q_fs1_3 ≠ r_0) (b11 : vp_in (v_fs1_7 + 1) n7) (K : ip sc call 63 MC MS Q 89 [some (.ref r_0)] [] (hup (hup h r_0 (.inr (6, (fs1.set 7 (.int (v_fs1_7 + 1)))))) q_fs1_3 (.inl (0, n7, .inl (upd f8 (v_fs1_7 + 1).toNatClampNeg v_fs1_6)))) z c s) : ip sc call 63 MC MS Q 66 [some (.ref r_0)] [] h z c s := by
  refine jp_load (pc2 := 67) (n := 0) rfl rfl rfl rfl ?_
  refine jp_dup (pc2 := 68) rfl rfl rfl ?_
  refine jp_getf (pc2 := 71) rfl rfl e2 e3 ?_
  refine jp_con (pc2 := 72) (v := .int 1) rfl rfl rfl ?_
  refine jp_bin (pc2 := 73) (v := v_fs1_7 + 1) rfl rfl rfl ?_
  refine jp_putf (pc2 := 76) rfl rfl e2 (ln_lt l4 (by decide)) ⟨rfl, rfl⟩ ?_
  refine jp_load (pc2 := 77) (n := 0) rfl rfl rfl rfl ?_
  refine jp_getf (pc2 := 80) rfl rfl hup_eq (gs_ne (by decide) e5) ?_
  refine jp_load (pc2 := 81) (n := 0) rfl rfl rfl rfl ?_
  refine jp_getf (pc2 := 84) rfl rfl hup_eq (gs_eq (ln_lt l4 (by decide))) ?_
  refine jp_load (pc2 := 85) (n := 0) rfl rfl rfl rfl ?_
  refine jp_getf (pc2 := 88) rfl rfl hup_eq (gs_ne (by decide) e6) ?_
  refine jp_iast (pc2 := 89) rfl rfl (hup_ne n10 e9) b11 ?_
  exact K
theorem b63_89 {o_0 : Option Value} (q1 : Q none h z)  : ip sc call 63 MC MS Q 89 [o_0] [] h z c s := by
  exact ip_vret (st := []) rfl rfl q1
theorem b64_0 {r_0 : Nat} {x_1 : Int32} {o_2 : Option Value}  (K : ip sc call 64 MC MS Q 2 [some (.ref r_0), some (.int x_1), some (.int x_1)] [] h z c s) : ip sc call 64 MC MS Q 0 [some (.ref r_0), some (.int x_1), o_2] [] h z c s := by
  refine jp_load (pc2 := 1) (n := 1) rfl rfl rfl rfl ?_
  refine jp_store (pc2 := 2) (n := 2) rfl rfl ⟨rfl, rfl⟩ rfl (Nat.le_of_ble_eq_true rfl) ?_
  exact K
theorem b64_2 {r_0 : Nat} {x_1 : Int32} {x_2 : Int32} {fs1 : List Value} {v_fs1_5 : Int32} (e2 : h r_0 = some (.inr (6, fs1))) (e3 : fs1[5]? = some (.int v_fs1_5)) (K1 : v_fs1_5 ≤ x_2 → ip sc call 64 MC MS Q 48 [some (.ref r_0), some (.int x_1), some (.int x_2)] [] h z c s) (K2 : ¬ (v_fs1_5 ≤ x_2) → ip sc call 64 MC MS Q 10 [some (.ref r_0), some (.int x_1), some (.int x_2)] [] h z c s) : ip sc call 64 MC MS Q 2 [some (.ref r_0), some (.int x_1), some (.int x_2)] [] h z c s := by
  refine jp_load (pc2 := 3) (n := 2) rfl rfl rfl rfl ?_
  refine jp_load (pc2 := 4) (n := 0) rfl rfl rfl rfl ?_
  refine jp_getf (pc2 := 7) rfl rfl e2 e3 ?_
  exact jp_icmp (pc2 := 10) rfl rfl K1 K2
theorem b64_10 {r_0 : Nat} {x_1 : Int32} {x_2 : Int32} {fs1 : List Value} {q_fs1_4 : Nat} {q_fs1_1 : Nat} {n5 : Nat} {f6 : Nat → Int32} {n9 : Nat} {f10 : Nat → Int32} (e2 : h r_0 = some (.inr (6, fs1))) (e3 : fs1[4]? = some (.ref q_fs1_4)) (e4 : fs1[1]? = some (.ref q_fs1_1)) (e7 : h q_fs1_1 = some (.inl (0, n5, .inl f6))) (b8 : vp_in x_2 n5) (e11 : h q_fs1_4 = some (.inl (0, n9, .inl f10))) (b12 : vp_in (f6 x_2.toNatClampNeg) n9) (K1 : (2 : Int32) ≤ (f10 (f6 x_2.toNatClampNeg).toNatClampNeg) → ip sc call 64 MC MS Q 40 [some (.ref r_0), some (.int x_1), some (.int x_2)] [] h z c s) (K2 : ¬ ((2 : Int32) ≤ (f10 (f6 x_2.toNatClampNeg).toNatClampNeg)) → ip sc call 64 MC MS Q 25 [some (.ref r_0), some (.int x_1), some (.int x_2)] [] h z c s) : ip sc call 64 MC MS Q 10 [some (.ref r_0), some (.int x_1), some (.int x_2)] [] h z c s := by
  refine jp_load (pc2 := 11) (n := 0) rfl rfl rfl rfl ?_
  refine jp_getf (pc2 := 14) rfl rfl e2 e3 ?_
  refine jp_load (pc2 := 15) (n := 0) rfl rfl rfl rfl ?_
  refine jp_getf (pc2 := 18) rfl rfl e2 e4 ?_
  refine jp_load (pc2 := 19) (n := 2) rfl rfl rfl rfl ?_
  refine jp_iald (pc2 := 20) rfl rfl e7 b8 ?_
  refine jp_iald (pc2 := 21) rfl rfl e11 b12 ?_
  refine jp_con (pc2 := 22) (v := .int 2) rfl rfl rfl ?_
  exact jp_icmp (pc2 := 25) rfl rfl K1 K2
theorem b64_25 {r_0 : Nat} {x_1 : Int32} {x_2 : Int32} {fs1 : List Value} {q_fs1_1 : Nat} {n4 : Nat} {f5 : Nat → Int32} (e2 : h r_0 = some (.inr (6, fs1))) (e3 : fs1[1]? = some (.ref q_fs1_1)) (e6 : h q_fs1_1 = some (.inl (0, n4, .inl f5))) (b7 : vp_in x_2 n4) (b8 : vp_in x_1 n4) (K1 : (f5 x_2.toNatClampNeg) = (f5 x_1.toNatClampNeg) → ip sc call 64 MC MS Q 42 [some (.ref r_0), some (.int x_1), some (.int x_2)] [] h z c s) (K2 : ¬ ((f5 x_2.toNatClampNeg) = (f5 x_1.toNatClampNeg)) → ip sc call 64 MC MS Q 40 [some (.ref r_0), some (.int x_1), some (.int x_2)] [] h z c s) : ip sc call 64 MC MS Q 25 [some (.ref r_0), some (.int x_1), some (.int x_2)] [] h z c s := by
  refine jp_load (pc2 := 26) (n := 0) rfl rfl rfl rfl ?_
  refine jp_getf (pc2 := 29) rfl rfl e2 e3 ?_
  refine jp_load (pc2 := 30) (n := 2) rfl rfl rfl rfl ?_
  refine jp_iald (pc2 := 31) rfl rfl e6 b7 ?_
  refine jp_load (pc2 := 32) (n := 0) rfl rfl rfl rfl ?_
  refine jp_getf (pc2 := 35) rfl rfl e2 e3 ?_
  refine jp_load (pc2 := 36) (n := 1) rfl rfl rfl rfl ?_
  refine jp_iald (pc2 := 37) rfl rfl e6 b8 ?_
  exact jp_icmp (pc2 := 40) rfl rfl K1 K2
theorem b64_40 {o_0 : Option Value} {o_1 : Option Value} {o_2 : Option Value} (q1 : Q (some (.int 1)) h z)  : ip sc call 64 MC MS Q 40 [o_0, o_1, o_2] [] h z c s := by
  refine jp_con (pc2 := 41) (v := .int 1) rfl rfl rfl ?_
  exact ip_iret (st := []) rfl rfl rfl q1
theorem b64_42 {r_0 : Nat} {x_1 : Int32} {x_2 : Int32}  (K : ip sc call 64 MC MS Q 2 [some (.ref r_0), some (.int x_1), some (.int (x_2 + 1))] [] h z c s) : ip sc call 64 MC MS Q 42 [some (.ref r_0), some (.int x_1), some (.int x_2)] [] h z c s := by
  refine jp_iinc (pc2 := 45) (n := 2) (v := x_2 + 1) rfl rfl rfl rfl rfl ?_
  refine ip_goto rfl ?_
  exact K
theorem b64_48 {o_0 : Option Value} {o_1 : Option Value} {o_2 : Option Value} (q1 : Q (some (.int 0)) h z)  : ip sc call 64 MC MS Q 48 [o_0, o_1, o_2] [] h z c s := by
  refine jp_con (pc2 := 49) (v := .int 0) rfl rfl rfl ?_
  exact ip_iret (st := []) rfl rfl rfl q1
end BLK
