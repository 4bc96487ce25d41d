/-! straight stretches of bytecode, printed by wip/whole/gen_blk.py -/
section BLK
variable {sc : ipSc} {call : ipCall} {MC MS : Nat} {Q : ipQ} {h : HP} {z c s : Nat}
theorem b14_0 {r_0 : Nat} {r_1 : Nat} {fs3 : List Value} (m1 : c + 1 ≤ MC) (m2 : s + 31 ≤ MS) (e4 : h r_0 = some (.inr (3, fs3))) (n5 : r_0 ≠ z) (l6 : fs3.length = 13) (m7 : c + 1 + 1 ≤ MC) (m8 : s + 31 + 24 ≤ MS) (n9 : r_0 ≠ z + 1) (m10 : c + 1 + 1 + 1 ≤ MC) (m11 : s + 31 + 24 + 62 ≤ MS) (n12 : r_0 ≠ z + 1 + 1) (m13 : c + 1 + 1 + 1 + 1 ≤ MC) (m14 : s + 31 + 24 + 62 + 62 ≤ MS) (n15 : r_0 ≠ z + 1 + 1 + 1) (m16 : c + 1 + 1 + 1 + 1 + 1 ≤ MC) (m17 : s + 31 + 24 + 62 + 62 + 62 ≤ MS) (n18 : r_0 ≠ z + 1 + 1 + 1 + 1) (m19 : c + 1 + 1 + 1 + 1 + 1 + 1 ≤ MC) (m20 : s + 31 + 24 + 62 + 62 + 62 + 24 ≤ MS) (n21 : r_0 ≠ z + 1 + 1 + 1 + 1 + 1) (m22 : c + 1 + 1 + 1 + 1 + 1 + 1 + 1 ≤ MC) (m23 : s + 31 + 24 + 62 + 62 + 62 + 24 + 100 ≤ MS) (n24 : r_0 ≠ z + 1 + 1 + 1 + 1 + 1 + 1) (m25 : c + 1 + 1 + 1 + 1 + 1 + 1 + 1 + 1 ≤ MC) (m26 : s + 31 + 24 + 62 + 62 + 62 + 24 + 100 + 100 ≤ MS) (n27 : r_0 ≠ z + 1 + 1 + 1 + 1 + 1 + 1 + 1) (q28 : Q none (hup (hup (hup (hup (hup (hup (hup (hup (hup (hup (hup (hup (hup (hup (hup (hup (hup h z (.inl (0, 31, .inl (fun _ => 0)))) r_0 (.inr (3, (fs3.set 1 (.ref z))))) (z + 1) (.inl (0, 24, .inl (fun _ => 0)))) r_0 (.inr (3, ((fs3.set 1 (.ref z)).set 2 (.ref (z + 1)))))) (z + 1 + 1) (.inl (0, 62, .inl (fun _ => 0)))) r_0 (.inr (3, (((fs3.set 1 (.ref z)).set 2 (.ref (z + 1))).set 3 (.ref (z + 1 + 1)))))) (z + 1 + 1 + 1) (.inl (1, 62, .inr (.inl (fun _ => 0))))) r_0 (.inr (3, ((((fs3.set 1 (.ref z)).set 2 (.ref (z + 1))).set 3 (.ref (z + 1 + 1))).set 4 (.ref (z + 1 + 1 + 1)))))) (z + 1 + 1 + 1 + 1) (.inl (0, 62, .inl (fun _ => 0)))) r_0 (.inr (3, (((((fs3.set 1 (.ref z)).set 2 (.ref (z + 1))).set 3 (.ref (z + 1 + 1))).set 4 (.ref (z + 1 + 1 + 1))).set 5 (.ref (z + 1 + 1 + 1 + 1)))))) (z + 1 + 1 + 1 + 1 + 1) (.inl (0, 24, .inl (fun _ => 0)))) r_0 (.inr (3, ((((((fs3.set 1 (.ref z)).set 2 (.ref (z + 1))).set 3 (.ref (z + 1 + 1))).set 4 (.ref (z + 1 + 1 + 1))).set 5 (.ref (z + 1 + 1 + 1 + 1))).set 6 (.ref (z + 1 + 1 + 1 + 1 + 1)))))) (z + 1 + 1 + 1 + 1 + 1 + 1) (.inl (0, 100, .inl (fun _ => 0)))) r_0 (.inr (3, (((((((fs3.set 1 (.ref z)).set 2 (.ref (z + 1))).set 3 (.ref (z + 1 + 1))).set 4 (.ref (z + 1 + 1 + 1))).set 5 (.ref (z + 1 + 1 + 1 + 1))).set 6 (.ref (z + 1 + 1 + 1 + 1 + 1))).set 7 (.ref (z + 1 + 1 + 1 + 1 + 1 + 1)))))) (z + 1 + 1 + 1 + 1 + 1 + 1 + 1) (.inl (0, 100, .inl (fun _ => 0)))) r_0 (.inr (3, ((((((((fs3.set 1 (.ref z)).set 2 (.ref (z + 1))).set 3 (.ref (z + 1 + 1))).set 4 (.ref (z + 1 + 1 + 1))).set 5 (.ref (z + 1 + 1 + 1 + 1))).set 6 (.ref (z + 1 + 1 + 1 + 1 + 1))).set 7 (.ref (z + 1 + 1 + 1 + 1 + 1 + 1))).set 8 (.ref (z + 1 + 1 + 1 + 1 + 1 + 1 + 1)))))) r_0 (.inr (3, (((((((((fs3.set 1 (.ref z)).set 2 (.ref (z + 1))).set 3 (.ref (z + 1 + 1))).set 4 (.ref (z + 1 + 1 + 1))).set 5 (.ref (z + 1 + 1 + 1 + 1))).set 6 (.ref (z + 1 + 1 + 1 + 1 + 1))).set 7 (.ref (z + 1 + 1 + 1 + 1 + 1 + 1))).set 8 (.ref (z + 1 + 1 + 1 + 1 + 1 + 1 + 1))).set 0 (.ref r_1))))) (z + 1 + 1 + 1 + 1 + 1 + 1 + 1 + 1))  : ip sc call 14 MC MS Q 0 [some (.ref r_0), some (.ref r_1)] [] h z c s := by
  refine jp_load (pc2 := 1) (n := 0) rfl rfl rfl rfl ?_
  refine jp_objinit (pc2 := 4) rfl rfl (Nat.le_of_ble_eq_true rfl) ?_
  refine jp_load (pc2 := 5) (n := 0) rfl rfl rfl rfl ?_
  refine jp_con (pc2 := 7) (v := .int 31) rfl rfl rfl ?_
  refine jp_newa0 (pc2 := 9) (N := 31) rfl rfl (by decide) (by decide) (by decide) m1 m2 ?_
  refine jp_putf (pc2 := 12) rfl rfl (hup_ne n5 e4) (ln_lt l6 (by decide)) ⟨rfl, rfl⟩ ?_
  refine jp_load (pc2 := 13) (n := 0) rfl rfl rfl rfl ?_
  refine jp_con (pc2 := 15) (v := .int 24) rfl rfl rfl ?_
  refine jp_newa0 (pc2 := 17) (N := 24) rfl rfl (by decide) (by decide) (by decide) m7 m8 ?_
  refine jp_putf (pc2 := 20) rfl rfl (hup_ne n9 hup_eq) (ls_lt (ln_lt l6 (by decide))) ⟨rfl, rfl⟩ ?_
  refine jp_load (pc2 := 21) (n := 0) rfl rfl rfl rfl ?_
  refine jp_con (pc2 := 23) (v := .int 62) rfl rfl rfl ?_
  refine jp_newa0 (pc2 := 25) (N := 62) rfl rfl (by decide) (by decide) (by decide) m10 m11 ?_
  refine jp_putf (pc2 := 28) rfl rfl (hup_ne n12 hup_eq) (ls_lt (ls_lt (ln_lt l6 (by decide)))) ⟨rfl, rfl⟩ ?_
  refine jp_load (pc2 := 29) (n := 0) rfl rfl rfl rfl ?_
  refine jp_con (pc2 := 31) (v := .int 62) rfl rfl rfl ?_
  refine jp_newa1 (pc2 := 33) (N := 62) rfl rfl (by decide) (by decide) (by decide) m13 m14 ?_
  refine jp_putf (pc2 := 36) rfl rfl (hup_ne n15 hup_eq) (ls_lt (ls_lt (ls_lt (ln_lt l6 (by decide))))) ⟨rfl, rfl⟩ ?_
  refine jp_load (pc2 := 37) (n := 0) rfl rfl rfl rfl ?_
  refine jp_con (pc2 := 39) (v := .int 62) rfl rfl rfl ?_
  refine jp_newa0 (pc2 := 41) (N := 62) rfl rfl (by decide) (by decide) (by decide) m16 m17 ?_
  refine jp_putf (pc2 := 44) rfl rfl (hup_ne n18 hup_eq) (ls_lt (ls_lt (ls_lt (ls_lt (ln_lt l6 (by decide)))))) ⟨rfl, rfl⟩ ?_
  refine jp_load (pc2 := 45) (n := 0) rfl rfl rfl rfl ?_
  refine jp_con (pc2 := 47) (v := .int 24) rfl rfl rfl ?_
  refine jp_newa0 (pc2 := 49) (N := 24) rfl rfl (by decide) (by decide) (by decide) m19 m20 ?_
  refine jp_putf (pc2 := 52) rfl rfl (hup_ne n21 hup_eq) (ls_lt (ls_lt (ls_lt (ls_lt (ls_lt (ln_lt l6 (by decide))))))) ⟨rfl, rfl⟩ ?_
  refine jp_load (pc2 := 53) (n := 0) rfl rfl rfl rfl ?_
  refine jp_con (pc2 := 55) (v := .int 100) rfl rfl rfl ?_
  refine jp_newa0 (pc2 := 57) (N := 100) rfl rfl (by decide) (by decide) (by decide) m22 m23 ?_
  refine jp_putf (pc2 := 60) rfl rfl (hup_ne n24 hup_eq) (ls_lt (ls_lt (ls_lt (ls_lt (ls_lt (ls_lt (ln_lt l6 (by decide)))))))) ⟨rfl, rfl⟩ ?_
  refine jp_load (pc2 := 61) (n := 0) rfl rfl rfl rfl ?_
  refine jp_con (pc2 := 63) (v := .int 100) rfl rfl rfl ?_
  refine jp_newa0 (pc2 := 65) (N := 100) rfl rfl (by decide) (by decide) (by decide) m25 m26 ?_
  refine jp_putf (pc2 := 68) rfl rfl (hup_ne n27 hup_eq) (ls_lt (ls_lt (ls_lt (ls_lt (ls_lt (ls_lt (ls_lt (ln_lt l6 (by decide))))))))) ⟨rfl, rfl⟩ ?_
  refine jp_load (pc2 := 69) (n := 0) rfl rfl rfl rfl ?_
  refine jp_load (pc2 := 70) (n := 1) rfl rfl rfl rfl ?_
  refine jp_putf (pc2 := 73) rfl rfl hup_eq (ls_lt (ls_lt (ls_lt (ls_lt (ls_lt (ls_lt (ls_lt (ls_lt (ln_lt l6 (by decide)))))))))) ⟨rfl, rfl⟩ ?_
  exact ip_vret (st := []) rfl rfl q28
theorem b15_0 {r_0 : Nat} {r_1 : Nat} {x_2 : Int32} {o_3 : Option Value} {o_4 : Option Value} {o_5 : Option Value} {fs1 : List Value} {P : ipQ} (e2 : h r_0 = some (.inr (3, fs1))) (m3 : c ≤ MC) (m4 : s ≤ MS) (hc : call 16 [(.ref r_0), (.ref r_1), (.int x_2)] h z 0 0 P) (K : ∀ (o : Option Value) (h2 : HP) (z2 : Nat), P o h2 z2 → ip sc call 15 MC MS Q 6 [some (.ref r_0), some (.ref r_1), some (.int x_2), o_3, o_4, o_5] (o.toList ++ []) h2 z2 c s) : ip sc call 15 MC MS Q 0 [some (.ref r_0), some (.ref r_1), some (.int x_2), o_3, o_4, o_5] [] h z c s := by
  refine jp_load (pc2 := 1) (n := 0) rfl rfl rfl rfl ?_
  refine jp_load (pc2 := 2) (n := 1) rfl rfl rfl rfl ?_
  refine jp_load (pc2 := 3) (n := 2) rfl rfl rfl rfl ?_
  exact jp_virt0 (pc2 := 6) (As := [(.ref r_1), (.int x_2)]) (rest := []) rfl rfl rfl (Nat.le_of_ble_eq_true rfl) e2 m3 m4 hc rfl K
theorem b15_6 {r_0 : Nat} {r_1 : Nat} {o_2 : Option Value} {o_3 : Option Value} {o_4 : Option Value} {o_5 : Option Value} {fs1 : List Value} {P : ipQ} (e2 : h r_0 = some (.inr (3, fs1))) (m3 : c ≤ MC) (m4 : s ≤ MS) (hc : call 17 [(.ref r_0), (.ref r_1)] h z 0 0 P) (K : ∀ (o : Option Value) (h2 : HP) (z2 : Nat), P o h2 z2 → ip sc call 15 MC MS Q 11 [some (.ref r_0), some (.ref r_1), o_2, o_3, o_4, o_5] (o.toList ++ []) h2 z2 c s) : ip sc call 15 MC MS Q 6 [some (.ref r_0), some (.ref r_1), o_2, o_3, o_4, o_5] [] h z c s := by
  refine jp_load (pc2 := 7) (n := 0) rfl rfl rfl rfl ?_
  refine jp_load (pc2 := 8) (n := 1) rfl rfl rfl rfl ?_
  exact jp_virt0 (pc2 := 11) (As := [(.ref r_1)]) (rest := []) rfl rfl rfl (Nat.le_of_ble_eq_true rfl) e2 m3 m4 hc rfl K
theorem b15_11 {r_0 : Nat} {r_1 : Nat} {o_2 : Option Value} {o_3 : Option Value} {o_4 : Option Value} {o_5 : Option Value} (k1 : ip2 o_2 = false) (K : ip sc call 15 MC MS Q 16 [some (.ref r_0), some (.ref r_1), o_2, some (.int 1), some (.int 0), o_5] [] h z c s) : ip sc call 15 MC MS Q 11 [some (.ref r_0), some (.ref r_1), o_2, o_3, o_4, o_5] [] h z c s := by
  refine jp_con (pc2 := 12) (v := .int 1) rfl rfl rfl ?_
  refine jp_store (pc2 := 13) (n := 3) rfl rfl ⟨rfl, rfl⟩ k1 (Nat.le_of_ble_eq_true rfl) ?_
  refine jp_con (pc2 := 14) (v := .int 0) rfl rfl rfl ?_
  refine jp_store (pc2 := 16) (n := 4) rfl rfl ⟨rfl, rfl⟩ rfl (Nat.le_of_ble_eq_true rfl) ?_
  exact K
theorem b15_16 {r_0 : Nat} {r_1 : Nat} {o_2 : Option Value} {x_3 : Int32} {x_4 : Int32} {o_5 : Option Value}  (K1 : (2 : Int32) ≤ x_4 → ip sc call 15 MC MS Q 77 [some (.ref r_0), some (.ref r_1), o_2, some (.int x_3), some (.int x_4), o_5] [] h z c s) (K2 : ¬ ((2 : Int32) ≤ x_4) → ip sc call 15 MC MS Q 22 [some (.ref r_0), some (.ref r_1), o_2, some (.int x_3), some (.int x_4), o_5] [] h z c s) : ip sc call 15 MC MS Q 16 [some (.ref r_0), some (.ref r_1), o_2, some (.int x_3), some (.int x_4), o_5] [] h z c s := by
  refine jp_load (pc2 := 18) (n := 4) rfl rfl rfl rfl ?_
  refine jp_con (pc2 := 19) (v := .int 2) rfl rfl rfl ?_
  exact jp_icmp (pc2 := 22) rfl rfl K1 K2
theorem b15_22 {r_0 : Nat} {r_1 : Nat} {o_2 : Option Value} {x_3 : Int32} {x_4 : Int32} {o_5 : Option Value}  (K1 : x_3 = 0 → ip sc call 15 MC MS Q 77 [some (.ref r_0), some (.ref r_1), o_2, some (.int x_3), some (.int x_4), o_5] [] h z c s) (K2 : ¬ (x_3 = 0) → ip sc call 15 MC MS Q 26 [some (.ref r_0), some (.ref r_1), o_2, some (.int x_3), some (.int x_4), o_5] [] h z c s) : ip sc call 15 MC MS Q 22 [some (.ref r_0), some (.ref r_1), o_2, some (.int x_3), some (.int x_4), o_5] [] h z c s := by
  refine jp_load (pc2 := 23) (n := 3) rfl rfl rfl rfl ?_
  exact jp_if0 (pc2 := 26) rfl rfl K1 K2
theorem b15_26 {r_0 : Nat} {r_1 : Nat} {o_2 : Option Value} {o_3 : Option Value} {x_4 : Int32} {o_5 : Option Value}  (K : ip sc call 15 MC MS Q 29 [some (.ref r_0), some (.ref r_1), o_2, o_3, some (.int x_4), some (.int 0)] [] h z c s) : ip sc call 15 MC MS Q 26 [some (.ref r_0), some (.ref r_1), o_2, o_3, some (.int x_4), o_5] [] h z c s := by
  refine jp_con (pc2 := 27) (v := .int 0) rfl rfl rfl ?_
  refine jp_store (pc2 := 29) (n := 5) rfl rfl ⟨rfl, rfl⟩ rfl (Nat.le_of_ble_eq_true rfl) ?_
  exact K
theorem b15_29 {r_0 : Nat} {r_1 : Nat} {o_2 : Option Value} {o_3 : Option Value} {x_4 : Int32} {x_5 : Int32} {fs1 : List Value} {v_fs1_9 : Int32} (e2 : h r_0 = some (.inr (3, fs1))) (e3 : fs1[9]? = some (.int v_fs1_9)) (K1 : v_fs1_9 ≤ x_5 → ip sc call 15 MC MS Q 56 [some (.ref r_0), some (.ref r_1), o_2, o_3, some (.int x_4), some (.int x_5)] [] h z c s) (K2 : ¬ (v_fs1_9 ≤ x_5) → ip sc call 15 MC MS Q 38 [some (.ref r_0), some (.ref r_1), o_2, o_3, some (.int x_4), some (.int x_5)] [] h z c s) : ip sc call 15 MC MS Q 29 [some (.ref r_0), some (.ref r_1), o_2, o_3, some (.int x_4), some (.int x_5)] [] h z c s := by
  refine jp_load (pc2 := 31) (n := 5) rfl rfl rfl rfl ?_
  refine jp_load (pc2 := 32) (n := 0) rfl rfl rfl rfl ?_
  refine jp_getf (pc2 := 35) rfl rfl e2 e3 ?_
  exact jp_icmp (pc2 := 38) rfl rfl K1 K2
theorem b15_38 {r_0 : Nat} {r_1 : Nat} {o_2 : Option Value} {o_3 : Option Value} {x_4 : Int32} {x_5 : Int32} {fs1 : List Value} {q_fs1_2 : Nat} {n4 : Nat} {f5 : Nat → Int32} {P : ipQ} (e2 : h r_0 = some (.inr (3, fs1))) (e3 : fs1[2]? = some (.ref q_fs1_2)) (e6 : h q_fs1_2 = some (.inl (0, n4, .inl f5))) (b7 : vp_in x_5 n4) (m8 : c ≤ MC) (m9 : s ≤ MS) (hc : call 19 [(.ref r_0), (.ref r_1), (.int (f5 x_5.toNatClampNeg))] h z 0 0 P) (K : ∀ (o : Option Value) (h2 : HP) (z2 : Nat), P o h2 z2 → ip sc call 15 MC MS Q 50 [some (.ref r_0), some (.ref r_1), o_2, o_3, some (.int x_4), some (.int x_5)] (o.toList ++ []) h2 z2 c s) : ip sc call 15 MC MS Q 38 [some (.ref r_0), some (.ref r_1), o_2, o_3, some (.int x_4), some (.int x_5)] [] h z c s := by
  refine jp_load (pc2 := 39) (n := 0) rfl rfl rfl rfl ?_
  refine jp_load (pc2 := 40) (n := 1) rfl rfl rfl rfl ?_
  refine jp_load (pc2 := 41) (n := 0) rfl rfl rfl rfl ?_
  refine jp_getf (pc2 := 44) rfl rfl e2 e3 ?_
  refine jp_load (pc2 := 46) (n := 5) rfl rfl rfl rfl ?_
  refine jp_iald (pc2 := 47) rfl rfl e6 b7 ?_
  exact jp_virt0 (pc2 := 50) (As := [(.ref r_1), (.int (f5 x_5.toNatClampNeg))]) (rest := []) rfl rfl rfl (Nat.le_of_ble_eq_true rfl) e2 m8 m9 hc rfl K
theorem b15_50 {r_0 : Nat} {r_1 : Nat} {o_2 : Option Value} {o_3 : Option Value} {x_4 : Int32} {x_5 : Int32}  (K : ip sc call 15 MC MS Q 29 [some (.ref r_0), some (.ref r_1), o_2, o_3, some (.int x_4), some (.int (x_5 + 1))] [] h z c s) : ip sc call 15 MC MS Q 50 [some (.ref r_0), some (.ref r_1), o_2, o_3, some (.int x_4), some (.int x_5)] [] h z c s := by
  refine jp_iinc (pc2 := 53) (n := 5) (v := x_5 + 1) rfl rfl rfl rfl rfl ?_
  refine ip_goto rfl ?_
  exact K
theorem b15_56 {r_0 : Nat} {r_1 : Nat} {o_2 : Option Value} {o_3 : Option Value} {x_4 : Int32} {o_5 : Option Value} {fs1 : List Value} {P : ipQ} (e2 : h r_0 = some (.inr (3, fs1))) (m3 : c ≤ MC) (m4 : s ≤ MS) (hc : call 20 [(.ref r_0), (.ref r_1)] h z 0 0 P) (K : ∀ (o : Option Value) (h2 : HP) (z2 : Nat), P o h2 z2 → ip sc call 15 MC MS Q 61 [some (.ref r_0), some (.ref r_1), o_2, o_3, some (.int x_4), o_5] (o.toList ++ []) h2 z2 c s) : ip sc call 15 MC MS Q 56 [some (.ref r_0), some (.ref r_1), o_2, o_3, some (.int x_4), o_5] [] h z c s := by
  refine jp_load (pc2 := 57) (n := 0) rfl rfl rfl rfl ?_
  refine jp_load (pc2 := 58) (n := 1) rfl rfl rfl rfl ?_
  exact jp_virt0 (pc2 := 61) (As := [(.ref r_1)]) (rest := []) rfl rfl rfl (Nat.le_of_ble_eq_true rfl) e2 m3 m4 hc rfl K
theorem b15_61 {r_0 : Nat} {r_1 : Nat} {o_2 : Option Value} {o_3 : Option Value} {x_4 : Int32} {o_5 : Option Value} {fs1 : List Value} {P : ipQ} (e2 : h r_0 = some (.inr (3, fs1))) (m3 : c ≤ MC) (m4 : s ≤ MS) (hc : call 24 [(.ref r_0), (.ref r_1)] h z 0 0 P) (K : ∀ (o : Option Value) (h2 : HP) (z2 : Nat), P o h2 z2 → ip sc call 15 MC MS Q 66 [some (.ref r_0), some (.ref r_1), o_2, o_3, some (.int x_4), o_5] (o.toList ++ []) h2 z2 c s) : ip sc call 15 MC MS Q 61 [some (.ref r_0), some (.ref r_1), o_2, o_3, some (.int x_4), o_5] [] h z c s := by
  refine jp_load (pc2 := 62) (n := 0) rfl rfl rfl rfl ?_
  refine jp_load (pc2 := 63) (n := 1) rfl rfl rfl rfl ?_
  exact jp_virt0 (pc2 := 66) (As := [(.ref r_1)]) (rest := []) rfl rfl rfl (Nat.le_of_ble_eq_true rfl) e2 m3 m4 hc rfl K
theorem b15_66 {r_0 : Nat} {r_1 : Nat} {o_2 : Option Value} {o_3 : Option Value} {x_4 : Int32} {o_5 : Option Value} {fs1 : List Value} {P : ipQ} (e2 : h r_0 = some (.inr (3, fs1))) (m3 : c ≤ MC) (m4 : s ≤ MS) (hc : call 18 [(.ref r_0)] h z 0 0 P) (K : ∀ (o : Option Value) (h2 : HP) (z2 : Nat), P o h2 z2 → ip sc call 15 MC MS Q 70 [some (.ref r_0), some (.ref r_1), o_2, o_3, some (.int x_4), o_5] (o.toList ++ []) h2 z2 c s) : ip sc call 15 MC MS Q 66 [some (.ref r_0), some (.ref r_1), o_2, o_3, some (.int x_4), o_5] [] h z c s := by
  refine jp_load (pc2 := 67) (n := 0) rfl rfl rfl rfl ?_
  exact jp_virt0 (pc2 := 70) (As := []) (rest := []) rfl rfl rfl (Nat.le_of_ble_eq_true rfl) e2 m3 m4 hc rfl K
theorem b15_70 {r_0 : Nat} {r_1 : Nat} {o_2 : Option Value} {o_3 : Option Value} {x_4 : Int32} {o_5 : Option Value} {sx_0 : Int32} (k1 : ip2 o_2 = false) (K : ip sc call 15 MC MS Q 16 [some (.ref r_0), some (.ref r_1), o_2, some (.int sx_0), some (.int (x_4 + 1)), o_5] [] h z c s) : ip sc call 15 MC MS Q 70 [some (.ref r_0), some (.ref r_1), o_2, o_3, some (.int x_4), o_5] [(.int sx_0)] h z c s := by
  refine jp_store (pc2 := 71) (n := 3) rfl rfl ⟨rfl, rfl⟩ k1 (Nat.le_of_ble_eq_true rfl) ?_
  refine jp_iinc (pc2 := 74) (n := 4) (v := x_4 + 1) rfl rfl rfl rfl rfl ?_
  refine ip_goto rfl ?_
  exact K
theorem b15_77 {r_0 : Nat} {o_1 : Option Value} {o_2 : Option Value} {o_3 : Option Value} {o_4 : Option Value} {o_5 : Option Value} {fs1 : List Value} {P : ipQ} (e2 : h r_0 = some (.inr (3, fs1))) (m3 : c ≤ MC) (m4 : s ≤ MS) (hc : call 26 [(.ref r_0)] h z 0 0 P) (K : ∀ (o : Option Value) (h2 : HP) (z2 : Nat), P o h2 z2 → ip sc call 15 MC MS Q 81 [some (.ref r_0), o_1, o_2, o_3, o_4, o_5] (o.toList ++ []) h2 z2 c s) : ip sc call 15 MC MS Q 77 [some (.ref r_0), o_1, o_2, o_3, o_4, o_5] [] h z c s := by
  refine jp_load (pc2 := 78) (n := 0) rfl rfl rfl rfl ?_
  exact jp_virt0 (pc2 := 81) (As := []) (rest := []) rfl rfl rfl (Nat.le_of_ble_eq_true rfl) e2 m3 m4 hc rfl K
theorem b15_81 {o_0 : Option Value} {o_1 : Option Value} {o_2 : Option Value} {o_3 : Option Value} {o_4 : Option Value} {o_5 : Option Value} (q1 : Q none h z)  : ip sc call 15 MC MS Q 81 [o_0, o_1, o_2, o_3, o_4, o_5] [] h z c s := by
  exact ip_vret (st := []) rfl rfl q1
theorem b16_0 {r_0 : Nat} {r_1 : Nat} {x_2 : Int32} {o_3 : Option Value} {fs1 : List Value} (e2 : h r_0 = some (.inr (3, fs1))) (l3 : fs1.length = 13) (K : ip sc call 16 MC MS Q 7 [some (.ref r_0), some (.ref r_1), some (.int x_2), some (.int 0)] [] (hup h r_0 (.inr (3, (fs1.set 9 (.int 0))))) z c s) : ip sc call 16 MC MS Q 0 [some (.ref r_0), some (.ref r_1), some (.int x_2), o_3] [] h z c s := by
  refine jp_load (pc2 := 1) (n := 0) rfl rfl rfl rfl ?_
  refine jp_con (pc2 := 2) (v := .int 0) rfl rfl rfl ?_
  refine jp_putf (pc2 := 5) rfl rfl e2 (ln_lt l3 (by decide)) ⟨rfl, rfl⟩ ?_
  refine jp_con (pc2 := 6) (v := .int 0) rfl rfl rfl ?_
  refine jp_store (pc2 := 7) (n := 3) rfl rfl ⟨rfl, rfl⟩ rfl (Nat.le_of_ble_eq_true rfl) ?_
  exact K
theorem b16_7 {r_0 : Nat} {r_1 : Nat} {x_2 : Int32} {x_3 : Int32} {fs1 : List Value} {v_fs1_7 : Int32} (e2 : h r_1 = some (.inr (6, fs1))) (e3 : fs1[7]? = some (.int v_fs1_7)) (K1 : v_fs1_7 ≤ x_3 → ip sc call 16 MC MS Q 50 [some (.ref r_0), some (.ref r_1), some (.int x_2), some (.int x_3)] [] h z c s) (K2 : ¬ (v_fs1_7 ≤ x_3) → ip sc call 16 MC MS Q 15 [some (.ref r_0), some (.ref r_1), some (.int x_2), some (.int x_3)] [] h z c s) : ip sc call 16 MC MS Q 7 [some (.ref r_0), some (.ref r_1), some (.int x_2), some (.int x_3)] [] h z c s := by
  refine jp_load (pc2 := 8) (n := 3) rfl rfl rfl rfl ?_
  refine jp_load (pc2 := 9) (n := 1) rfl rfl rfl rfl ?_
  refine jp_getf (pc2 := 12) rfl rfl e2 e3 ?_
  exact jp_icmp (pc2 := 15) rfl rfl K1 K2
theorem b16_15 {r_0 : Nat} {r_1 : Nat} {x_2 : Int32} {x_3 : Int32}  (K1 : ¬ ((x_2 >>> (x_3 &&& 31)) &&& 1) = 1 → ip sc call 16 MC MS Q 44 [some (.ref r_0), some (.ref r_1), some (.int x_2), some (.int x_3)] [] h z c s) (K2 : ¬ (¬ ((x_2 >>> (x_3 &&& 31)) &&& 1) = 1) → ip sc call 16 MC MS Q 24 [some (.ref r_0), some (.ref r_1), some (.int x_2), some (.int x_3)] [] h z c s) : ip sc call 16 MC MS Q 15 [some (.ref r_0), some (.ref r_1), some (.int x_2), some (.int x_3)] [] h z c s := by
  refine jp_load (pc2 := 16) (n := 2) rfl rfl rfl rfl ?_
  refine jp_load (pc2 := 17) (n := 3) rfl rfl rfl rfl ?_
  refine jp_bin (pc2 := 18) (v := x_2 >>> (x_3 &&& 31)) rfl rfl rfl ?_
  refine jp_con (pc2 := 19) (v := .int 1) rfl rfl rfl ?_
  refine jp_bin (pc2 := 20) (v := (x_2 >>> (x_3 &&& 31)) &&& 1) rfl rfl rfl ?_
  refine jp_con (pc2 := 21) (v := .int 1) rfl rfl rfl ?_
  exact jp_icmp (pc2 := 24) rfl rfl K1 K2
theorem b16_24 {r_0 : Nat} {r_1 : Nat} {x_2 : Int32} {x_3 : Int32} {fs1 : List Value} {q_fs1_2 : Nat} {v_fs1_9 : Int32} {n5 : Nat} {f6 : Nat → Int32} (e2 : h r_0 = some (.inr (3, fs1))) (e3 : fs1[2]? = some (.ref q_fs1_2)) (e4 : fs1[9]? = some (.int v_fs1_9)) (e7 : h q_fs1_2 = some (.inl (0, n5, .inl f6))) (b8 : vp_in v_fs1_9 n5) (n9 : r_0 ≠ q_fs1_2) (l10 : fs1.length = 13) (K : ip sc call 16 MC MS Q 44 [some (.ref r_0), some (.ref r_1), some (.int x_2), some (.int x_3)] [] (hup (hup h q_fs1_2 (.inl (0, n5, .inl (upd f6 v_fs1_9.toNatClampNeg x_3)))) r_0 (.inr (3, (fs1.set 9 (.int (v_fs1_9 + 1)))))) z c s) : ip sc call 16 MC MS Q 24 [some (.ref r_0), some (.ref r_1), some (.int x_2), some (.int x_3)] [] h z c s := by
  refine jp_load (pc2 := 25) (n := 0) rfl rfl rfl rfl ?_
  refine jp_getf (pc2 := 28) rfl rfl e2 e3 ?_
  refine jp_load (pc2 := 29) (n := 0) rfl rfl rfl rfl ?_
  refine jp_getf (pc2 := 32) rfl rfl e2 e4 ?_
  refine jp_load (pc2 := 33) (n := 3) rfl rfl rfl rfl ?_
  refine jp_iast (pc2 := 34) rfl rfl e7 b8 ?_
  refine jp_load (pc2 := 35) (n := 0) rfl rfl rfl rfl ?_
  refine jp_dup (pc2 := 36) rfl rfl rfl ?_
  refine jp_getf (pc2 := 39) rfl rfl (hup_ne n9 e2) e4 ?_
  refine jp_con (pc2 := 40) (v := .int 1) rfl rfl rfl ?_
  refine jp_bin (pc2 := 41) (v := v_fs1_9 + 1) rfl rfl rfl ?_
  refine jp_putf (pc2 := 44) rfl rfl (hup_ne n9 e2) (ln_lt l10 (by decide)) ⟨rfl, rfl⟩ ?_
  exact K
theorem b16_44 {r_0 : Nat} {r_1 : Nat} {x_2 : Int32} {x_3 : Int32}  (K : ip sc call 16 MC MS Q 7 [some (.ref r_0), some (.ref r_1), some (.int x_2), some (.int (x_3 + 1))] [] h z c s) : ip sc call 16 MC MS Q 44 [some (.ref r_0), some (.ref r_1), some (.int x_2), some (.int x_3)] [] h z c s := by
  refine jp_iinc (pc2 := 47) (n := 3) (v := x_3 + 1) rfl rfl rfl rfl rfl ?_
  refine ip_goto rfl ?_
  exact K
theorem b16_50 {o_0 : Option Value} {o_1 : Option Value} {o_2 : Option Value} {o_3 : Option Value} (q1 : Q none h z)  : ip sc call 16 MC MS Q 50 [o_0, o_1, o_2, o_3] [] h z c s := by
  exact ip_vret (st := []) rfl rfl q1
theorem b17_0 {r_0 : Nat} {r_1 : Nat} {o_2 : Option Value}  (K : ip sc call 17 MC MS Q 2 [some (.ref r_0), some (.ref r_1), some (.int 0)] [] h z c s) : ip sc call 17 MC MS Q 0 [some (.ref r_0), some (.ref r_1), o_2] [] h z c s := by
  refine jp_con (pc2 := 1) (v := .int 0) rfl rfl rfl ?_
  refine jp_store (pc2 := 2) (n := 2) rfl rfl ⟨rfl, rfl⟩ rfl (Nat.le_of_ble_eq_true rfl) ?_
  exact K
theorem b17_2 {r_0 : Nat} {r_1 : Nat} {x_2 : Int32} {fs1 : List Value} {v_fs1_8 : Int32} (e2 : h r_1 = some (.inr (6, fs1))) (e3 : fs1[8]? = some (.int v_fs1_8)) (K1 : v_fs1_8 ≤ x_2 → ip sc call 17 MC MS Q 95 [some (.ref r_0), some (.ref r_1), some (.int x_2)] [] h z c s) (K2 : ¬ (v_fs1_8 ≤ x_2) → ip sc call 17 MC MS Q 10 [some (.ref r_0), some (.ref r_1), some (.int x_2)] [] h z c s) : ip sc call 17 MC MS Q 2 [some (.ref r_0), some (.ref r_1), some (.int x_2)] [] h z c s := by
  refine jp_load (pc2 := 3) (n := 2) rfl rfl rfl rfl ?_
  refine jp_load (pc2 := 4) (n := 1) rfl rfl rfl rfl ?_
  refine jp_getf (pc2 := 7) rfl rfl e2 e3 ?_
  exact jp_icmp (pc2 := 10) rfl rfl K1 K2
theorem b17_10 {r_0 : Nat} {r_1 : Nat} {x_2 : Int32} {fs1 : List Value} {q_fs1_4 : Nat} {n4 : Nat} {f5 : Nat → Int32} (e2 : h r_1 = some (.inr (6, fs1))) (e3 : fs1[4]? = some (.ref q_fs1_4)) (e6 : h q_fs1_4 = some (.inl (0, n4, .inl f5))) (b7 : vp_in x_2 n4) (K1 : (f5 x_2.toNatClampNeg) ≤ 1 → ip sc call 17 MC MS Q 44 [some (.ref r_0), some (.ref r_1), some (.int x_2)] [] h z c s) (K2 : ¬ ((f5 x_2.toNatClampNeg) ≤ 1) → ip sc call 17 MC MS Q 20 [some (.ref r_0), some (.ref r_1), some (.int x_2)] [] h z c s) : ip sc call 17 MC MS Q 10 [some (.ref r_0), some (.ref r_1), some (.int x_2)] [] h z c s := by
  refine jp_load (pc2 := 11) (n := 1) rfl rfl rfl rfl ?_
  refine jp_getf (pc2 := 14) rfl rfl e2 e3 ?_
  refine jp_load (pc2 := 15) (n := 2) rfl rfl rfl rfl ?_
  refine jp_iald (pc2 := 16) rfl rfl e6 b7 ?_
  refine jp_con (pc2 := 17) (v := .int 1) rfl rfl rfl ?_
  exact jp_icmp (pc2 := 20) rfl rfl K1 K2
theorem b17_20 {r_0 : Nat} {r_1 : Nat} {x_2 : Int32} {fs1 : List Value} {q_fs1_1 : Nat} {fs4 : List Value} {q_fs4_4 : Nat} {n7 : Nat} {f8 : Nat → Int32} (e2 : h r_0 = some (.inr (3, fs1))) (e3 : fs1[1]? = some (.ref q_fs1_1)) (e5 : h r_1 = some (.inr (6, fs4))) (e6 : fs4[4]? = some (.ref q_fs4_4)) (e9 : h q_fs4_4 = some (.inl (0, n7, .inl f8))) (b10 : vp_in x_2 n7) (K1 : ¬ (f8 x_2.toNatClampNeg) = 3 → ip sc call 17 MC MS Q 39 [some (.ref r_0), some (.ref r_1), some (.int x_2)] [(.int x_2), (.ref q_fs1_1)] h z c s) (K2 : ¬ (¬ (f8 x_2.toNatClampNeg) = 3) → ip sc call 17 MC MS Q 35 [some (.ref r_0), some (.ref r_1), some (.int x_2)] [(.int x_2), (.ref q_fs1_1)] h z c s) : ip sc call 17 MC MS Q 20 [some (.ref r_0), some (.ref r_1), some (.int x_2)] [] h z c s := by
  refine jp_load (pc2 := 21) (n := 0) rfl rfl rfl rfl ?_
  refine jp_getf (pc2 := 24) rfl rfl e2 e3 ?_
  refine jp_load (pc2 := 25) (n := 2) rfl rfl rfl rfl ?_
  refine jp_load (pc2 := 26) (n := 1) rfl rfl rfl rfl ?_
  refine jp_getf (pc2 := 29) rfl rfl e5 e6 ?_
  refine jp_load (pc2 := 30) (n := 2) rfl rfl rfl rfl ?_
  refine jp_iald (pc2 := 31) rfl rfl e9 b10 ?_
  refine jp_con (pc2 := 32) (v := .int 3) rfl rfl rfl ?_
  exact jp_icmp (pc2 := 35) rfl rfl K1 K2
theorem b17_35 {r_0 : Nat} {r_1 : Nat} {x_2 : Int32} {sr_0 : Nat} {sx_1 : Int32}  (K : ip sc call 17 MC MS Q 40 [some (.ref r_0), some (.ref r_1), some (.int x_2)] [(.int 1), (.int sx_1), (.ref sr_0)] h z c s) : ip sc call 17 MC MS Q 35 [some (.ref r_0), some (.ref r_1), some (.int x_2)] [(.int sx_1), (.ref sr_0)] h z c s := by
  refine jp_con (pc2 := 36) (v := .int 1) rfl rfl rfl ?_
  refine ip_goto rfl ?_
  exact K
theorem b17_39 {r_0 : Nat} {r_1 : Nat} {x_2 : Int32} {sr_0 : Nat} {sx_1 : Int32}  (K : ip sc call 17 MC MS Q 40 [some (.ref r_0), some (.ref r_1), some (.int x_2)] [(.int 2), (.int sx_1), (.ref sr_0)] h z c s) : ip sc call 17 MC MS Q 39 [some (.ref r_0), some (.ref r_1), some (.int x_2)] [(.int sx_1), (.ref sr_0)] h z c s := by
  refine jp_con (pc2 := 40) (v := .int 2) rfl rfl rfl ?_
  exact K
theorem b17_40 {r_0 : Nat} {r_1 : Nat} {x_2 : Int32} {sr_0 : Nat} {sx_1 : Int32} {sx_2 : Int32} {n1 : Nat} {f2 : Nat → Int32} (e3 : h sr_0 = some (.inl (0, n1, .inl f2))) (b4 : vp_in sx_1 n1) (K : ip sc call 17 MC MS Q 89 [some (.ref r_0), some (.ref r_1), some (.int x_2)] [] (hup h sr_0 (.inl (0, n1, .inl (upd f2 sx_1.toNatClampNeg sx_2)))) z c s) : ip sc call 17 MC MS Q 40 [some (.ref r_0), some (.ref r_1), some (.int x_2)] [(.int sx_2), (.int sx_1), (.ref sr_0)] h z c s := by
  refine jp_iast (pc2 := 41) rfl rfl e3 b4 ?_
  refine ip_goto rfl ?_
  exact K
theorem b17_44 {r_0 : Nat} {r_1 : Nat} {x_2 : Int32} {fs1 : List Value} {q_fs1_0 : Nat} {fs4 : List Value} {q_fs4_0 : Nat} {n7 : Nat} {f8 : Nat → Int32} (e2 : h r_0 = some (.inr (3, fs1))) (e3 : fs1[0]? = some (.ref q_fs1_0)) (e5 : h q_fs1_0 = some (.inr (5, fs4))) (e6 : fs4[0]? = some (.ref q_fs4_0)) (e9 : h q_fs4_0 = some (.inl (0, n7, .inl f8))) (b10 : vp_in x_2 n7) (K1 : (2 : Int32) ≤ (f8 x_2.toNatClampNeg) → ip sc call 17 MC MS Q 67 [some (.ref r_0), some (.ref r_1), some (.int x_2)] [] h z c s) (K2 : ¬ ((2 : Int32) ≤ (f8 x_2.toNatClampNeg)) → ip sc call 17 MC MS Q 57 [some (.ref r_0), some (.ref r_1), some (.int x_2)] [] h z c s) : ip sc call 17 MC MS Q 44 [some (.ref r_0), some (.ref r_1), some (.int x_2)] [] h z c s := by
  refine jp_load (pc2 := 45) (n := 0) rfl rfl rfl rfl ?_
  refine jp_getf (pc2 := 48) rfl rfl e2 e3 ?_
  refine jp_getf (pc2 := 51) rfl rfl e5 e6 ?_
  refine jp_load (pc2 := 52) (n := 2) rfl rfl rfl rfl ?_
  refine jp_iald (pc2 := 53) rfl rfl e9 b10 ?_
  refine jp_con (pc2 := 54) (v := .int 2) rfl rfl rfl ?_
  exact jp_icmp (pc2 := 57) rfl rfl K1 K2
theorem b17_57 {r_0 : Nat} {r_1 : Nat} {x_2 : Int32} {fs1 : List Value} {q_fs1_1 : Nat} {n4 : Nat} {f5 : Nat → Int32} (e2 : h r_0 = some (.inr (3, fs1))) (e3 : fs1[1]? = some (.ref q_fs1_1)) (e6 : h q_fs1_1 = some (.inl (0, n4, .inl f5))) (b7 : vp_in x_2 n4) (K : ip sc call 17 MC MS Q 89 [some (.ref r_0), some (.ref r_1), some (.int x_2)] [] (hup h q_fs1_1 (.inl (0, n4, .inl (upd f5 x_2.toNatClampNeg 3)))) z c s) : ip sc call 17 MC MS Q 57 [some (.ref r_0), some (.ref r_1), some (.int x_2)] [] h z c s := by
  refine jp_load (pc2 := 58) (n := 0) rfl rfl rfl rfl ?_
  refine jp_getf (pc2 := 61) rfl rfl e2 e3 ?_
  refine jp_load (pc2 := 62) (n := 2) rfl rfl rfl rfl ?_
  refine jp_con (pc2 := 63) (v := .int 3) rfl rfl rfl ?_
  refine jp_iast (pc2 := 64) rfl rfl e6 b7 ?_
  refine ip_goto rfl ?_
  exact K
theorem b17_67 {r_0 : Nat} {r_1 : Nat} {x_2 : Int32} {fs1 : List Value} {q_fs1_1 : Nat} {q_fs1_0 : Nat} {fs5 : List Value} {P : ipQ} (e2 : h r_0 = some (.inr (3, fs1))) (e3 : fs1[1]? = some (.ref q_fs1_1)) (e4 : fs1[0]? = some (.ref q_fs1_0)) (e6 : h q_fs1_0 = some (.inr (5, fs5))) (m7 : c ≤ MC) (m8 : s ≤ MS) (hc : call 32 [(.ref q_fs1_0), (.int x_2)] h z 0 0 P) (K : ∀ (o : Option Value) (h2 : HP) (z2 : Nat), P o h2 z2 → ip sc call 17 MC MS Q 80 [some (.ref r_0), some (.ref r_1), some (.int x_2)] (o.toList ++ [(.int x_2), (.ref q_fs1_1)]) h2 z2 c s) : ip sc call 17 MC MS Q 67 [some (.ref r_0), some (.ref r_1), some (.int x_2)] [] h z c s := by
  refine jp_load (pc2 := 68) (n := 0) rfl rfl rfl rfl ?_
  refine jp_getf (pc2 := 71) rfl rfl e2 e3 ?_
  refine jp_load (pc2 := 72) (n := 2) rfl rfl rfl rfl ?_
  refine jp_load (pc2 := 73) (n := 0) rfl rfl rfl rfl ?_
  refine jp_getf (pc2 := 76) rfl rfl e2 e4 ?_
  refine jp_load (pc2 := 77) (n := 2) rfl rfl rfl rfl ?_
  exact jp_virt0 (pc2 := 80) (As := [(.int x_2)]) (rest := [(.int x_2), (.ref q_fs1_1)]) rfl rfl rfl (Nat.le_of_ble_eq_true rfl) e6 m7 m8 hc rfl K
theorem b17_80 {r_0 : Nat} {r_1 : Nat} {x_2 : Int32} {sr_0 : Nat} {sx_1 : Int32} {sx_2 : Int32}  (K1 : sx_2 = 0 → ip sc call 17 MC MS Q 87 [some (.ref r_0), some (.ref r_1), some (.int x_2)] [(.int sx_1), (.ref sr_0)] h z c s) (K2 : ¬ (sx_2 = 0) → ip sc call 17 MC MS Q 83 [some (.ref r_0), some (.ref r_1), some (.int x_2)] [(.int sx_1), (.ref sr_0)] h z c s) : ip sc call 17 MC MS Q 80 [some (.ref r_0), some (.ref r_1), some (.int x_2)] [(.int sx_2), (.int sx_1), (.ref sr_0)] h z c s := by
  exact jp_if0 (pc2 := 83) rfl rfl K1 K2
theorem b17_83 {r_0 : Nat} {r_1 : Nat} {x_2 : Int32} {sr_0 : Nat} {sx_1 : Int32}  (K : ip sc call 17 MC MS Q 88 [some (.ref r_0), some (.ref r_1), some (.int x_2)] [(.int 4), (.int sx_1), (.ref sr_0)] h z c s) : ip sc call 17 MC MS Q 83 [some (.ref r_0), some (.ref r_1), some (.int x_2)] [(.int sx_1), (.ref sr_0)] h z c s := by
  refine jp_con (pc2 := 84) (v := .int 4) rfl rfl rfl ?_
  refine ip_goto rfl ?_
  exact K
theorem b17_87 {r_0 : Nat} {r_1 : Nat} {x_2 : Int32} {sr_0 : Nat} {sx_1 : Int32}  (K : ip sc call 17 MC MS Q 88 [some (.ref r_0), some (.ref r_1), some (.int x_2)] [(.int 5), (.int sx_1), (.ref sr_0)] h z c s) : ip sc call 17 MC MS Q 87 [some (.ref r_0), some (.ref r_1), some (.int x_2)] [(.int sx_1), (.ref sr_0)] h z c s := by
  refine jp_con (pc2 := 88) (v := .int 5) rfl rfl rfl ?_
  exact K
theorem b17_88 {r_0 : Nat} {r_1 : Nat} {x_2 : Int32} {sr_0 : Nat} {sx_1 : Int32} {sx_2 : Int32} {n1 : Nat} {f2 : Nat → Int32} (e3 : h sr_0 = some (.inl (0, n1, .inl f2))) (b4 : vp_in sx_1 n1) (K : ip sc call 17 MC MS Q 89 [some (.ref r_0), some (.ref r_1), some (.int x_2)] [] (hup h sr_0 (.inl (0, n1, .inl (upd f2 sx_1.toNatClampNeg sx_2)))) z c s) : ip sc call 17 MC MS Q 88 [some (.ref r_0), some (.ref r_1), some (.int x_2)] [(.int sx_2), (.int sx_1), (.ref sr_0)] h z c s := by
  refine jp_iast (pc2 := 89) rfl rfl e3 b4 ?_
  exact K
theorem b17_89 {r_0 : Nat} {r_1 : Nat} {x_2 : Int32}  (K : ip sc call 17 MC MS Q 2 [some (.ref r_0), some (.ref r_1), some (.int (x_2 + 1))] [] h z c s) : ip sc call 17 MC MS Q 89 [some (.ref r_0), some (.ref r_1), some (.int x_2)] [] h z c s := by
  refine jp_iinc (pc2 := 92) (n := 2) (v := x_2 + 1) rfl rfl rfl rfl rfl ?_
  refine ip_goto rfl ?_
  exact K
theorem b17_95 {o_0 : Option Value} {o_1 : Option Value} {o_2 : Option Value} (q1 : Q none h z)  : ip sc call 17 MC MS Q 95 [o_0, o_1, o_2] [] h z c s := by
  exact ip_vret (st := []) rfl rfl q1
theorem b18_0 {r_0 : Nat} {o_1 : Option Value} {o_2 : Option Value}  (K : ip sc call 18 MC MS Q 2 [some (.ref r_0), some (.int 0), o_2] [] h z c s) : ip sc call 18 MC MS Q 0 [some (.ref r_0), o_1, o_2] [] h z c s := by
  refine jp_con (pc2 := 1) (v := .int 0) rfl rfl rfl ?_
  refine jp_store (pc2 := 2) (n := 1) rfl rfl ⟨rfl, rfl⟩ rfl (Nat.le_of_ble_eq_true rfl) ?_
  exact K
theorem b18_2 {r_0 : Nat} {x_1 : Int32} {o_2 : Option Value} {fs1 : List Value} {v_fs1_10 : Int32} (e2 : h r_0 = some (.inr (3, fs1))) (e3 : fs1[10]? = some (.int v_fs1_10)) (K1 : v_fs1_10 ≤ x_1 → ip sc call 18 MC MS Q 43 [some (.ref r_0), some (.int x_1), o_2] [] h z c s) (K2 : ¬ (v_fs1_10 ≤ x_1) → ip sc call 18 MC MS Q 10 [some (.ref r_0), some (.int x_1), o_2] [] h z c s) : ip sc call 18 MC MS Q 2 [some (.ref r_0), some (.int x_1), o_2] [] h z c s := by
  refine jp_load (pc2 := 3) (n := 1) rfl rfl rfl rfl ?_
  refine jp_load (pc2 := 4) (n := 0) rfl rfl rfl rfl ?_
  refine jp_getf (pc2 := 7) rfl rfl e2 e3 ?_
  exact jp_icmp (pc2 := 10) rfl rfl K1 K2
theorem b18_10 {r_0 : Nat} {x_1 : Int32} {o_2 : Option Value} {fs1 : List Value} {q_fs1_1 : Nat} {q_fs1_7 : Nat} {n5 : Nat} {f6 : Nat → Int32} {n9 : Nat} {f10 : Nat → Int32} (e2 : h r_0 = some (.inr (3, fs1))) (e3 : fs1[1]? = some (.ref q_fs1_1)) (e4 : fs1[7]? = some (.ref q_fs1_7)) (e7 : h q_fs1_7 = some (.inl (0, n5, .inl f6))) (b8 : vp_in x_1 n5) (e11 : h q_fs1_1 = some (.inl (0, n9, .inl f10))) (b12 : vp_in (f6 x_1.toNatClampNeg) n9) (K1 : (f10 (f6 x_1.toNatClampNeg).toNatClampNeg) < 4 → ip sc call 18 MC MS Q 37 [some (.ref r_0), some (.int x_1), o_2] [] h z c s) (K2 : ¬ ((f10 (f6 x_1.toNatClampNeg).toNatClampNeg) < 4) → ip sc call 18 MC MS Q 25 [some (.ref r_0), some (.int x_1), o_2] [] h z c s) : ip sc call 18 MC MS Q 10 [some (.ref r_0), some (.int x_1), o_2] [] h z c s := by
  refine jp_load (pc2 := 11) (n := 0) rfl rfl rfl rfl ?_
  refine jp_getf (pc2 := 14) rfl rfl e2 e3 ?_
  refine jp_load (pc2 := 15) (n := 0) rfl rfl rfl rfl ?_
  refine jp_getf (pc2 := 18) rfl rfl e2 e4 ?_
  refine jp_load (pc2 := 19) (n := 1) rfl rfl rfl rfl ?_
  refine jp_iald (pc2 := 20) rfl rfl e7 b8 ?_
  refine jp_iald (pc2 := 21) rfl rfl e11 b12 ?_
  refine jp_con (pc2 := 22) (v := .int 4) rfl rfl rfl ?_
  exact jp_icmp (pc2 := 25) rfl rfl K1 K2
theorem b18_25 {r_0 : Nat} {x_1 : Int32} {o_2 : Option Value} {fs1 : List Value} {q_fs1_1 : Nat} {q_fs1_7 : Nat} {n5 : Nat} {f6 : Nat → Int32} {n9 : Nat} {f10 : Nat → Int32} (e2 : h r_0 = some (.inr (3, fs1))) (e3 : fs1[1]? = some (.ref q_fs1_1)) (e4 : fs1[7]? = some (.ref q_fs1_7)) (e7 : h q_fs1_7 = some (.inl (0, n5, .inl f6))) (b8 : vp_in x_1 n5) (e11 : h q_fs1_1 = some (.inl (0, n9, .inl f10))) (b12 : vp_in (f6 x_1.toNatClampNeg) n9) (K : ip sc call 18 MC MS Q 37 [some (.ref r_0), some (.int x_1), o_2] [] (hup h q_fs1_1 (.inl (0, n9, .inl (upd f10 (f6 x_1.toNatClampNeg).toNatClampNeg 0)))) z c s) : ip sc call 18 MC MS Q 25 [some (.ref r_0), some (.int x_1), o_2] [] h z c s := by
  refine jp_load (pc2 := 26) (n := 0) rfl rfl rfl rfl ?_
  refine jp_getf (pc2 := 29) rfl rfl e2 e3 ?_
  refine jp_load (pc2 := 30) (n := 0) rfl rfl rfl rfl ?_
  refine jp_getf (pc2 := 33) rfl rfl e2 e4 ?_
  refine jp_load (pc2 := 34) (n := 1) rfl rfl rfl rfl ?_
  refine jp_iald (pc2 := 35) rfl rfl e7 b8 ?_
  refine jp_con (pc2 := 36) (v := .int 0) rfl rfl rfl ?_
  refine jp_iast (pc2 := 37) rfl rfl e11 b12 ?_
  exact K
theorem b18_37 {r_0 : Nat} {x_1 : Int32} {o_2 : Option Value}  (K : ip sc call 18 MC MS Q 2 [some (.ref r_0), some (.int (x_1 + 1)), o_2] [] h z c s) : ip sc call 18 MC MS Q 37 [some (.ref r_0), some (.int x_1), o_2] [] h z c s := by
  refine jp_iinc (pc2 := 40) (n := 1) (v := x_1 + 1) rfl rfl rfl rfl rfl ?_
  refine ip_goto rfl ?_
  exact K
theorem b18_43 {r_0 : Nat} {o_1 : Option Value} {o_2 : Option Value}  (K : ip sc call 18 MC MS Q 47 [some (.ref r_0), some (.int 4), some (.int 0)] [] h z c s) : ip sc call 18 MC MS Q 43 [some (.ref r_0), o_1, o_2] [] h z c s := by
  refine jp_con (pc2 := 44) (v := .int 4) rfl rfl rfl ?_
  refine jp_store (pc2 := 45) (n := 1) rfl rfl ⟨rfl, rfl⟩ rfl (Nat.le_of_ble_eq_true rfl) ?_
  refine jp_con (pc2 := 46) (v := .int 0) rfl rfl rfl ?_
  refine jp_store (pc2 := 47) (n := 2) rfl rfl ⟨rfl, rfl⟩ rfl (Nat.le_of_ble_eq_true rfl) ?_
  exact K
theorem b18_47 {r_0 : Nat} {x_1 : Int32} {x_2 : Int32} {fs1 : List Value} {v_fs1_10 : Int32} (e2 : h r_0 = some (.inr (3, fs1))) (e3 : fs1[10]? = some (.int v_fs1_10)) (K1 : v_fs1_10 ≤ x_2 → ip sc call 18 MC MS Q 90 [some (.ref r_0), some (.int x_1), some (.int x_2)] [] h z c s) (K2 : ¬ (v_fs1_10 ≤ x_2) → ip sc call 18 MC MS Q 55 [some (.ref r_0), some (.int x_1), some (.int x_2)] [] h z c s) : ip sc call 18 MC MS Q 47 [some (.ref r_0), some (.int x_1), some (.int x_2)] [] h z c s := by
  refine jp_load (pc2 := 48) (n := 2) rfl rfl rfl rfl ?_
  refine jp_load (pc2 := 49) (n := 0) rfl rfl rfl rfl ?_
  refine jp_getf (pc2 := 52) rfl rfl e2 e3 ?_
  exact jp_icmp (pc2 := 55) rfl rfl K1 K2
theorem b18_55 {r_0 : Nat} {x_1 : Int32} {x_2 : Int32} {fs1 : List Value} {q_fs1_1 : Nat} {q_fs1_7 : Nat} {n5 : Nat} {f6 : Nat → Int32} {n9 : Nat} {f10 : Nat → Int32} (e2 : h r_0 = some (.inr (3, fs1))) (e3 : fs1[1]? = some (.ref q_fs1_1)) (e4 : fs1[7]? = some (.ref q_fs1_7)) (e7 : h q_fs1_7 = some (.inl (0, n5, .inl f6))) (b8 : vp_in x_2 n5) (e11 : h q_fs1_1 = some (.inl (0, n9, .inl f10))) (b12 : vp_in (f6 x_2.toNatClampNeg) n9) (K1 : ¬ (f10 (f6 x_2.toNatClampNeg).toNatClampNeg) = 0 → ip sc call 18 MC MS Q 84 [some (.ref r_0), some (.int x_1), some (.int x_2)] [] h z c s) (K2 : ¬ (¬ (f10 (f6 x_2.toNatClampNeg).toNatClampNeg) = 0) → ip sc call 18 MC MS Q 69 [some (.ref r_0), some (.int x_1), some (.int x_2)] [] h z c s) : ip sc call 18 MC MS Q 55 [some (.ref r_0), some (.int x_1), some (.int x_2)] [] h z c s := by
  refine jp_load (pc2 := 56) (n := 0) rfl rfl rfl rfl ?_
  refine jp_getf (pc2 := 59) rfl rfl e2 e3 ?_
  refine jp_load (pc2 := 60) (n := 0) rfl rfl rfl rfl ?_
  refine jp_getf (pc2 := 63) rfl rfl e2 e4 ?_
  refine jp_load (pc2 := 64) (n := 2) rfl rfl rfl rfl ?_
  refine jp_iald (pc2 := 65) rfl rfl e7 b8 ?_
  refine jp_iald (pc2 := 66) rfl rfl e11 b12 ?_
  exact jp_if0 (pc2 := 69) rfl rfl K1 K2
theorem b18_69 {r_0 : Nat} {x_1 : Int32} {x_2 : Int32} {fs1 : List Value} {q_fs1_1 : Nat} {q_fs1_7 : Nat} {n5 : Nat} {f6 : Nat → Int32} {n9 : Nat} {f10 : Nat → Int32} (e2 : h r_0 = some (.inr (3, fs1))) (e3 : fs1[1]? = some (.ref q_fs1_1)) (e4 : fs1[7]? = some (.ref q_fs1_7)) (e7 : h q_fs1_7 = some (.inl (0, n5, .inl f6))) (b8 : vp_in x_2 n5) (e11 : h q_fs1_1 = some (.inl (0, n9, .inl f10))) (b12 : vp_in (f6 x_2.toNatClampNeg) n9) (K : ip sc call 18 MC MS Q 84 [some (.ref r_0), some (.int (x_1 + 1)), some (.int x_2)] [] (hup h q_fs1_1 (.inl (0, n9, .inl (upd f10 (f6 x_2.toNatClampNeg).toNatClampNeg x_1)))) z c s) : ip sc call 18 MC MS Q 69 [some (.ref r_0), some (.int x_1), some (.int x_2)] [] h z c s := by
  refine jp_load (pc2 := 70) (n := 0) rfl rfl rfl rfl ?_
  refine jp_getf (pc2 := 73) rfl rfl e2 e3 ?_
  refine jp_load (pc2 := 74) (n := 0) rfl rfl rfl rfl ?_
  refine jp_getf (pc2 := 77) rfl rfl e2 e4 ?_
  refine jp_load (pc2 := 78) (n := 2) rfl rfl rfl rfl ?_
  refine jp_iald (pc2 := 79) rfl rfl e7 b8 ?_
  refine jp_load (pc2 := 80) (n := 1) rfl rfl rfl rfl ?_
  refine jp_iast (pc2 := 81) rfl rfl e11 b12 ?_
  refine jp_iinc (pc2 := 84) (n := 1) (v := x_1 + 1) rfl rfl rfl rfl rfl ?_
  exact K
theorem b18_84 {r_0 : Nat} {x_1 : Int32} {x_2 : Int32}  (K : ip sc call 18 MC MS Q 47 [some (.ref r_0), some (.int x_1), some (.int (x_2 + 1))] [] h z c s) : ip sc call 18 MC MS Q 84 [some (.ref r_0), some (.int x_1), some (.int x_2)] [] h z c s := by
  refine jp_iinc (pc2 := 87) (n := 2) (v := x_2 + 1) rfl rfl rfl rfl rfl ?_
  refine ip_goto rfl ?_
  exact K
theorem b18_90 {o_0 : Option Value} {x_1 : Int32} {o_2 : Option Value}  (K1 : x_1 ≤ 4 → ip sc call 18 MC MS Q 99 [o_0, some (.int x_1), o_2] [] h z c s) (K2 : ¬ (x_1 ≤ 4) → ip sc call 18 MC MS Q 95 [o_0, some (.int x_1), o_2] [] h z c s) : ip sc call 18 MC MS Q 90 [o_0, some (.int x_1), o_2] [] h z c s := by
  refine jp_load (pc2 := 91) (n := 1) rfl rfl rfl rfl ?_
  refine jp_con (pc2 := 92) (v := .int 4) rfl rfl rfl ?_
  exact jp_icmp (pc2 := 95) rfl rfl K1 K2
theorem b18_95 {o_0 : Option Value} {o_1 : Option Value} {o_2 : Option Value}  (K : ip sc call 18 MC MS Q 100 [o_0, o_1, o_2] [(.int 1)] h z c s) : ip sc call 18 MC MS Q 95 [o_0, o_1, o_2] [] h z c s := by
  refine jp_con (pc2 := 96) (v := .int 1) rfl rfl rfl ?_
  refine ip_goto rfl ?_
  exact K
theorem b18_99 {o_0 : Option Value} {o_1 : Option Value} {o_2 : Option Value}  (K : ip sc call 18 MC MS Q 100 [o_0, o_1, o_2] [(.int 0)] h z c s) : ip sc call 18 MC MS Q 99 [o_0, o_1, o_2] [] h z c s := by
  refine jp_con (pc2 := 100) (v := .int 0) rfl rfl rfl ?_
  exact K
theorem b18_100 {o_0 : Option Value} {o_1 : Option Value} {o_2 : Option Value} {sx_0 : Int32} (t1 : narrow .boolean (.int sx_0) = .int sx_0) (q2 : Q (some (.int sx_0)) h z)  : ip sc call 18 MC MS Q 100 [o_0, o_1, o_2] [(.int sx_0)] h z c s := by
  exact ip_iret (st := []) rfl rfl t1 q2
theorem b19_0 {r_0 : Nat} {r_1 : Nat} {x_2 : Int32} {fs1 : List Value} {P : ipQ} (e2 : h r_0 = some (.inr (3, fs1))) (m3 : c ≤ MC) (m4 : s ≤ MS) (hc : call 21 [(.ref r_0), (.ref r_1), (.int x_2), (.int 0)] h z 0 0 P) (K : ∀ (o : Option Value) (h2 : HP) (z2 : Nat), P o h2 z2 → ip sc call 19 MC MS Q 7 [some (.ref r_0), some (.ref r_1), some (.int x_2)] (o.toList ++ []) h2 z2 c s) : ip sc call 19 MC MS Q 0 [some (.ref r_0), some (.ref r_1), some (.int x_2)] [] h z c s := by
  refine jp_load (pc2 := 1) (n := 0) rfl rfl rfl rfl ?_
  refine jp_load (pc2 := 2) (n := 1) rfl rfl rfl rfl ?_
  refine jp_load (pc2 := 3) (n := 2) rfl rfl rfl rfl ?_
  refine jp_con (pc2 := 4) (v := .int 0) rfl rfl rfl ?_
  exact jp_virt0 (pc2 := 7) (As := [(.ref r_1), (.int x_2), (.int 0)]) (rest := []) rfl rfl rfl (Nat.le_of_ble_eq_true rfl) e2 m3 m4 hc rfl K
theorem b19_7 {r_0 : Nat} {r_1 : Nat} {x_2 : Int32} {fs1 : List Value} {P : ipQ} (e2 : h r_0 = some (.inr (3, fs1))) (m3 : c ≤ MC) (m4 : s ≤ MS) (hc : call 21 [(.ref r_0), (.ref r_1), (.int x_2), (.int 31)] h z 0 0 P) (K : ∀ (o : Option Value) (h2 : HP) (z2 : Nat), P o h2 z2 → ip sc call 19 MC MS Q 15 [some (.ref r_0), some (.ref r_1), some (.int x_2)] (o.toList ++ []) h2 z2 c s) : ip sc call 19 MC MS Q 7 [some (.ref r_0), some (.ref r_1), some (.int x_2)] [] h z c s := by
  refine jp_load (pc2 := 8) (n := 0) rfl rfl rfl rfl ?_
  refine jp_load (pc2 := 9) (n := 1) rfl rfl rfl rfl ?_
  refine jp_load (pc2 := 10) (n := 2) rfl rfl rfl rfl ?_
  refine jp_con (pc2 := 12) (v := .int 31) rfl rfl rfl ?_
  exact jp_virt0 (pc2 := 15) (As := [(.ref r_1), (.int x_2), (.int 31)]) (rest := []) rfl rfl rfl (Nat.le_of_ble_eq_true rfl) e2 m3 m4 hc rfl K
theorem b19_15 {r_0 : Nat} {r_1 : Nat} {x_2 : Int32} {fs1 : List Value} {q_fs1_6 : Nat} {n4 : Nat} {f5 : Nat → Int32} {P : ipQ} (e2 : h r_0 = some (.inr (3, fs1))) (e3 : fs1[6]? = some (.ref q_fs1_6)) (e6 : h q_fs1_6 = some (.inl (0, n4, .inl f5))) (b7 : vp_in x_2 n4) (n8 : r_0 ≠ q_fs1_6) (m9 : c ≤ MC) (m10 : s ≤ MS) (hc : call 22 [(.ref r_0), (.ref r_1), (.int x_2), (.int x_2), (.int 31)] (hup h q_fs1_6 (.inl (0, n4, .inl (upd f5 x_2.toNatClampNeg 0)))) z 0 0 P) (K : ∀ (o : Option Value) (h2 : HP) (z2 : Nat), P o h2 z2 → ip sc call 19 MC MS Q 31 [some (.ref r_0), some (.ref r_1), some (.int x_2)] (o.toList ++ []) h2 z2 c s) : ip sc call 19 MC MS Q 15 [some (.ref r_0), some (.ref r_1), some (.int x_2)] [] h z c s := by
  refine jp_load (pc2 := 16) (n := 0) rfl rfl rfl rfl ?_
  refine jp_getf (pc2 := 19) rfl rfl e2 e3 ?_
  refine jp_load (pc2 := 20) (n := 2) rfl rfl rfl rfl ?_
  refine jp_con (pc2 := 21) (v := .int 0) rfl rfl rfl ?_
  refine jp_iast (pc2 := 22) rfl rfl e6 b7 ?_
  refine jp_load (pc2 := 23) (n := 0) rfl rfl rfl rfl ?_
  refine jp_load (pc2 := 24) (n := 1) rfl rfl rfl rfl ?_
  refine jp_load (pc2 := 25) (n := 2) rfl rfl rfl rfl ?_
  refine jp_load (pc2 := 26) (n := 2) rfl rfl rfl rfl ?_
  refine jp_con (pc2 := 28) (v := .int 31) rfl rfl rfl ?_
  exact jp_virt0 (pc2 := 31) (As := [(.ref r_1), (.int x_2), (.int x_2), (.int 31)]) (rest := []) rfl rfl rfl (Nat.le_of_ble_eq_true rfl) (hup_ne n8 e2) m9 m10 hc rfl K
theorem b19_31 {r_0 : Nat} {o_1 : Option Value} {x_2 : Int32} {sx_0 : Int32}  (K1 : sx_0 ≤ 0 → ip sc call 19 MC MS Q 42 [some (.ref r_0), o_1, some (.int x_2)] [] h z c s) (K2 : ¬ (sx_0 ≤ 0) → ip sc call 19 MC MS Q 34 [some (.ref r_0), o_1, some (.int x_2)] [] h z c s) : ip sc call 19 MC MS Q 31 [some (.ref r_0), o_1, some (.int x_2)] [(.int sx_0)] h z c s := by
  exact jp_if0 (pc2 := 34) rfl rfl K1 K2
theorem b19_34 {r_0 : Nat} {o_1 : Option Value} {x_2 : Int32} {fs1 : List Value} {q_fs1_6 : Nat} {n4 : Nat} {f5 : Nat → Int32} (e2 : h r_0 = some (.inr (3, fs1))) (e3 : fs1[6]? = some (.ref q_fs1_6)) (e6 : h q_fs1_6 = some (.inl (0, n4, .inl f5))) (b7 : vp_in x_2 n4) (K : ip sc call 19 MC MS Q 42 [some (.ref r_0), o_1, some (.int x_2)] [] (hup h q_fs1_6 (.inl (0, n4, .inl (upd f5 x_2.toNatClampNeg 31)))) z c s) : ip sc call 19 MC MS Q 34 [some (.ref r_0), o_1, some (.int x_2)] [] h z c s := by
  refine jp_load (pc2 := 35) (n := 0) rfl rfl rfl rfl ?_
  refine jp_getf (pc2 := 38) rfl rfl e2 e3 ?_
  refine jp_load (pc2 := 39) (n := 2) rfl rfl rfl rfl ?_
  refine jp_con (pc2 := 41) (v := .int 31) rfl rfl rfl ?_
  refine jp_iast (pc2 := 42) rfl rfl e6 b7 ?_
  exact K
theorem b19_42 {o_0 : Option Value} {o_1 : Option Value} {o_2 : Option Value} (q1 : Q none h z)  : ip sc call 19 MC MS Q 42 [o_0, o_1, o_2] [] h z c s := by
  exact ip_vret (st := []) rfl rfl q1
theorem b20_0 {r_0 : Nat} {r_1 : Nat} {o_2 : Option Value} {o_3 : Option Value} {o_4 : Option Value}  (K : ip sc call 20 MC MS Q 2 [some (.ref r_0), some (.ref r_1), some (.int 1), o_3, o_4] [] h z c s) : ip sc call 20 MC MS Q 0 [some (.ref r_0), some (.ref r_1), o_2, o_3, o_4] [] h z c s := by
  refine jp_con (pc2 := 1) (v := .int 1) rfl rfl rfl ?_
  refine jp_store (pc2 := 2) (n := 2) rfl rfl ⟨rfl, rfl⟩ rfl (Nat.le_of_ble_eq_true rfl) ?_
  exact K
theorem b20_2 {r_0 : Nat} {r_1 : Nat} {x_2 : Int32} {o_3 : Option Value} {o_4 : Option Value} {fs1 : List Value} {v_fs1_9 : Int32} (e2 : h r_0 = some (.inr (3, fs1))) (e3 : fs1[9]? = some (.int v_fs1_9)) (K1 : v_fs1_9 ≤ x_2 → ip sc call 20 MC MS Q 85 [some (.ref r_0), some (.ref r_1), some (.int x_2), o_3, o_4] [] h z c s) (K2 : ¬ (v_fs1_9 ≤ x_2) → ip sc call 20 MC MS Q 10 [some (.ref r_0), some (.ref r_1), some (.int x_2), o_3, o_4] [] h z c s) : ip sc call 20 MC MS Q 2 [some (.ref r_0), some (.ref r_1), some (.int x_2), o_3, o_4] [] h z c s := by
  refine jp_load (pc2 := 3) (n := 2) rfl rfl rfl rfl ?_
  refine jp_load (pc2 := 4) (n := 0) rfl rfl rfl rfl ?_
  refine jp_getf (pc2 := 7) rfl rfl e2 e3 ?_
  exact jp_icmp (pc2 := 10) rfl rfl K1 K2
theorem b20_10 {r_0 : Nat} {r_1 : Nat} {x_2 : Int32} {o_3 : Option Value} {o_4 : Option Value} {fs1 : List Value} {q_fs1_2 : Nat} {n4 : Nat} {f5 : Nat → Int32} (e2 : h r_0 = some (.inr (3, fs1))) (e3 : fs1[2]? = some (.ref q_fs1_2)) (e6 : h q_fs1_2 = some (.inl (0, n4, .inl f5))) (b7 : vp_in x_2 n4) (K : ip sc call 20 MC MS Q 20 [some (.ref r_0), some (.ref r_1), some (.int x_2), some (.int (f5 x_2.toNatClampNeg)), some (.int x_2)] [] h z c s) : ip sc call 20 MC MS Q 10 [some (.ref r_0), some (.ref r_1), some (.int x_2), o_3, o_4] [] h z c s := by
  refine jp_load (pc2 := 11) (n := 0) rfl rfl rfl rfl ?_
  refine jp_getf (pc2 := 14) rfl rfl e2 e3 ?_
  refine jp_load (pc2 := 15) (n := 2) rfl rfl rfl rfl ?_
  refine jp_iald (pc2 := 16) rfl rfl e6 b7 ?_
  refine jp_store (pc2 := 17) (n := 3) rfl rfl ⟨rfl, rfl⟩ rfl (Nat.le_of_ble_eq_true rfl) ?_
  refine jp_load (pc2 := 18) (n := 2) rfl rfl rfl rfl ?_
  refine jp_store (pc2 := 20) (n := 4) rfl rfl ⟨rfl, rfl⟩ rfl (Nat.le_of_ble_eq_true rfl) ?_
  exact K
theorem b20_20 {r_0 : Nat} {r_1 : Nat} {x_2 : Int32} {x_3 : Int32} {x_4 : Int32}  (K1 : x_4 ≤ 0 → ip sc call 20 MC MS Q 71 [some (.ref r_0), some (.ref r_1), some (.int x_2), some (.int x_3), some (.int x_4)] [] h z c s) (K2 : ¬ (x_4 ≤ 0) → ip sc call 20 MC MS Q 25 [some (.ref r_0), some (.ref r_1), some (.int x_2), some (.int x_3), some (.int x_4)] [] h z c s) : ip sc call 20 MC MS Q 20 [some (.ref r_0), some (.ref r_1), some (.int x_2), some (.int x_3), some (.int x_4)] [] h z c s := by
  refine jp_load (pc2 := 22) (n := 4) rfl rfl rfl rfl ?_
  exact jp_if0 (pc2 := 25) rfl rfl K1 K2
theorem b20_25 {r_0 : Nat} {r_1 : Nat} {x_2 : Int32} {x_3 : Int32} {x_4 : Int32} {fs1 : List Value} {q_fs1_2 : Nat} {n4 : Nat} {f5 : Nat → Int32} {q_fs1_6 : Nat} {n9 : Nat} {f10 : Nat → Int32} {P : ipQ} (e2 : h r_0 = some (.inr (3, fs1))) (e3 : fs1[2]? = some (.ref q_fs1_2)) (e6 : h q_fs1_2 = some (.inl (0, n4, .inl f5))) (b7 : vp_in (x_4 - 1) n4) (e8 : fs1[6]? = some (.ref q_fs1_6)) (e11 : h q_fs1_6 = some (.inl (0, n9, .inl f10))) (b12 : vp_in x_3 n9) (m13 : c ≤ MC) (m14 : s ≤ MS) (hc : call 22 [(.ref r_0), (.ref r_1), (.int (f5 (x_4 - 1).toNatClampNeg)), (.int x_3), (.int (f10 x_3.toNatClampNeg))] h z 0 0 P) (K : ∀ (o : Option Value) (h2 : HP) (z2 : Nat), P o h2 z2 → ip sc call 20 MC MS Q 46 [some (.ref r_0), some (.ref r_1), some (.int x_2), some (.int x_3), some (.int x_4)] (o.toList ++ []) h2 z2 c s) : ip sc call 20 MC MS Q 25 [some (.ref r_0), some (.ref r_1), some (.int x_2), some (.int x_3), some (.int x_4)] [] h z c s := by
  refine jp_load (pc2 := 26) (n := 0) rfl rfl rfl rfl ?_
  refine jp_load (pc2 := 27) (n := 1) rfl rfl rfl rfl ?_
  refine jp_load (pc2 := 28) (n := 0) rfl rfl rfl rfl ?_
  refine jp_getf (pc2 := 31) rfl rfl e2 e3 ?_
  refine jp_load (pc2 := 33) (n := 4) rfl rfl rfl rfl ?_
  refine jp_con (pc2 := 34) (v := .int 1) rfl rfl rfl ?_
  refine jp_bin (pc2 := 35) (v := x_4 - 1) rfl rfl rfl ?_
  refine jp_iald (pc2 := 36) rfl rfl e6 b7 ?_
  refine jp_load (pc2 := 37) (n := 3) rfl rfl rfl rfl ?_
  refine jp_load (pc2 := 38) (n := 0) rfl rfl rfl rfl ?_
  refine jp_getf (pc2 := 41) rfl rfl e2 e8 ?_
  refine jp_load (pc2 := 42) (n := 3) rfl rfl rfl rfl ?_
  refine jp_iald (pc2 := 43) rfl rfl e11 b12 ?_
  exact jp_virt0 (pc2 := 46) (As := [(.ref r_1), (.int (f5 (x_4 - 1).toNatClampNeg)), (.int x_3), (.int (f10 x_3.toNatClampNeg))]) (rest := []) rfl rfl rfl (Nat.le_of_ble_eq_true rfl) e2 m13 m14 hc rfl K
theorem b20_46 {r_0 : Nat} {r_1 : Nat} {x_2 : Int32} {x_3 : Int32} {x_4 : Int32} {sx_0 : Int32}  (K1 : (0 : Int32) ≤ sx_0 → ip sc call 20 MC MS Q 71 [some (.ref r_0), some (.ref r_1), some (.int x_2), some (.int x_3), some (.int x_4)] [] h z c s) (K2 : ¬ ((0 : Int32) ≤ sx_0) → ip sc call 20 MC MS Q 49 [some (.ref r_0), some (.ref r_1), some (.int x_2), some (.int x_3), some (.int x_4)] [] h z c s) : ip sc call 20 MC MS Q 46 [some (.ref r_0), some (.ref r_1), some (.int x_2), some (.int x_3), some (.int x_4)] [(.int sx_0)] h z c s := by
  exact jp_if0 (pc2 := 49) rfl rfl K1 K2
theorem b20_49 {r_0 : Nat} {r_1 : Nat} {x_2 : Int32} {x_3 : Int32} {x_4 : Int32} {fs1 : List Value} {q_fs1_2 : Nat} {n4 : Nat} {f5 : Nat → Int32} (e2 : h r_0 = some (.inr (3, fs1))) (e3 : fs1[2]? = some (.ref q_fs1_2)) (e6 : h q_fs1_2 = some (.inl (0, n4, .inl f5))) (b7 : vp_in (x_4 - 1) n4) (b8 : vp_in x_4 n4) (K : ip sc call 20 MC MS Q 20 [some (.ref r_0), some (.ref r_1), some (.int x_2), some (.int x_3), some (.int (x_4 + (-1)))] [] (hup h q_fs1_2 (.inl (0, n4, .inl (upd f5 x_4.toNatClampNeg (f5 (x_4 - 1).toNatClampNeg))))) z c s) : ip sc call 20 MC MS Q 49 [some (.ref r_0), some (.ref r_1), some (.int x_2), some (.int x_3), some (.int x_4)] [] h z c s := by
  refine jp_load (pc2 := 50) (n := 0) rfl rfl rfl rfl ?_
  refine jp_getf (pc2 := 53) rfl rfl e2 e3 ?_
  refine jp_load (pc2 := 55) (n := 4) rfl rfl rfl rfl ?_
  refine jp_load (pc2 := 56) (n := 0) rfl rfl rfl rfl ?_
  refine jp_getf (pc2 := 59) rfl rfl e2 e3 ?_
  refine jp_load (pc2 := 61) (n := 4) rfl rfl rfl rfl ?_
  refine jp_con (pc2 := 62) (v := .int 1) rfl rfl rfl ?_
  refine jp_bin (pc2 := 63) (v := x_4 - 1) rfl rfl rfl ?_
  refine jp_iald (pc2 := 64) rfl rfl e6 b7 ?_
  refine jp_iast (pc2 := 65) rfl rfl e6 b8 ?_
  refine jp_iinc (pc2 := 68) (n := 4) (v := x_4 + (-1)) rfl rfl rfl rfl rfl ?_
  refine ip_goto rfl ?_
  exact K
theorem b20_71 {r_0 : Nat} {r_1 : Nat} {x_2 : Int32} {x_3 : Int32} {x_4 : Int32} {fs1 : List Value} {q_fs1_2 : Nat} {n4 : Nat} {f5 : Nat → Int32} (e2 : h r_0 = some (.inr (3, fs1))) (e3 : fs1[2]? = some (.ref q_fs1_2)) (e6 : h q_fs1_2 = some (.inl (0, n4, .inl f5))) (b7 : vp_in x_4 n4) (K : ip sc call 20 MC MS Q 2 [some (.ref r_0), some (.ref r_1), some (.int (x_2 + 1)), some (.int x_3), some (.int x_4)] [] (hup h q_fs1_2 (.inl (0, n4, .inl (upd f5 x_4.toNatClampNeg x_3)))) z c s) : ip sc call 20 MC MS Q 71 [some (.ref r_0), some (.ref r_1), some (.int x_2), some (.int x_3), some (.int x_4)] [] h z c s := by
  refine jp_load (pc2 := 72) (n := 0) rfl rfl rfl rfl ?_
  refine jp_getf (pc2 := 75) rfl rfl e2 e3 ?_
  refine jp_load (pc2 := 77) (n := 4) rfl rfl rfl rfl ?_
  refine jp_load (pc2 := 78) (n := 3) rfl rfl rfl rfl ?_
  refine jp_iast (pc2 := 79) rfl rfl e6 b7 ?_
  refine jp_iinc (pc2 := 82) (n := 2) (v := x_2 + 1) rfl rfl rfl rfl rfl ?_
  refine ip_goto rfl ?_
  exact K
theorem b20_85 {o_0 : Option Value} {o_1 : Option Value} {o_2 : Option Value} {o_3 : Option Value} {o_4 : Option Value} (q1 : Q none h z)  : ip sc call 20 MC MS Q 85 [o_0, o_1, o_2, o_3, o_4] [] h z c s := by
  exact ip_vret (st := []) rfl rfl q1
theorem b21_0 {r_0 : Nat} {r_1 : Nat} {x_2 : Int32} {x_3 : Int32} {o_4 : Option Value} {o_5 : Option Value} {fs1 : List Value} {q_fs1_3 : Nat} {n4 : Nat} {f5 : Nat → Int32} (e2 : h r_1 = some (.inr (6, fs1))) (e3 : fs1[3]? = some (.ref q_fs1_3)) (e6 : h q_fs1_3 = some (.inl (0, n4, .inl f5))) (b7 : vp_in x_2 n4) (K : ip sc call 21 MC MS Q 8 [some (.ref r_0), some (.ref r_1), some (.int x_2), some (.int x_3), some (.int (f5 x_2.toNatClampNeg)), o_5] [] h z c s) : ip sc call 21 MC MS Q 0 [some (.ref r_0), some (.ref r_1), some (.int x_2), some (.int x_3), o_4, o_5] [] h z c s := by
  refine jp_load (pc2 := 1) (n := 1) rfl rfl rfl rfl ?_
  refine jp_getf (pc2 := 4) rfl rfl e2 e3 ?_
  refine jp_load (pc2 := 5) (n := 2) rfl rfl rfl rfl ?_
  refine jp_iald (pc2 := 6) rfl rfl e6 b7 ?_
  refine jp_store (pc2 := 8) (n := 4) rfl rfl ⟨rfl, rfl⟩ rfl (Nat.le_of_ble_eq_true rfl) ?_
  exact K
theorem b21_8 {r_0 : Nat} {r_1 : Nat} {x_2 : Int32} {x_3 : Int32} {x_4 : Int32} {o_5 : Option Value} {fs1 : List Value} {q_fs1_3 : Nat} {n4 : Nat} {f5 : Nat → Int32} (e2 : h r_1 = some (.inr (6, fs1))) (e3 : fs1[3]? = some (.ref q_fs1_3)) (e6 : h q_fs1_3 = some (.inl (0, n4, .inl f5))) (b7 : vp_in (x_2 + 1) n4) (K1 : (f5 (x_2 + 1).toNatClampNeg) ≤ x_4 → ip sc call 21 MC MS Q 118 [some (.ref r_0), some (.ref r_1), some (.int x_2), some (.int x_3), some (.int x_4), o_5] [] h z c s) (K2 : ¬ ((f5 (x_2 + 1).toNatClampNeg) ≤ x_4) → ip sc call 21 MC MS Q 21 [some (.ref r_0), some (.ref r_1), some (.int x_2), some (.int x_3), some (.int x_4), o_5] [] h z c s) : ip sc call 21 MC MS Q 8 [some (.ref r_0), some (.ref r_1), some (.int x_2), some (.int x_3), some (.int x_4), o_5] [] h z c s := by
  refine jp_load (pc2 := 10) (n := 4) rfl rfl rfl rfl ?_
  refine jp_load (pc2 := 11) (n := 1) rfl rfl rfl rfl ?_
  refine jp_getf (pc2 := 14) rfl rfl e2 e3 ?_
  refine jp_load (pc2 := 15) (n := 2) rfl rfl rfl rfl ?_
  refine jp_con (pc2 := 16) (v := .int 1) rfl rfl rfl ?_
  refine jp_bin (pc2 := 17) (v := x_2 + 1) rfl rfl rfl ?_
  refine jp_iald (pc2 := 18) rfl rfl e6 b7 ?_
  exact jp_icmp (pc2 := 21) rfl rfl K1 K2
theorem b21_21 {r_0 : Nat} {r_1 : Nat} {x_2 : Int32} {x_3 : Int32} {x_4 : Int32} {o_5 : Option Value} {fs1 : List Value} {P : ipQ} (e2 : h r_0 = some (.inr (3, fs1))) (m3 : c ≤ MC) (m4 : s ≤ MS) (hc : call 23 [(.ref r_0), (.ref r_1), (.int x_4), (.int x_3)] h z 0 0 P) (K : ∀ (o : Option Value) (h2 : HP) (z2 : Nat), P o h2 z2 → ip sc call 21 MC MS Q 29 [some (.ref r_0), some (.ref r_1), some (.int x_2), some (.int x_3), some (.int x_4), o_5] (o.toList ++ []) h2 z2 c s) : ip sc call 21 MC MS Q 21 [some (.ref r_0), some (.ref r_1), some (.int x_2), some (.int x_3), some (.int x_4), o_5] [] h z c s := by
  refine jp_load (pc2 := 22) (n := 0) rfl rfl rfl rfl ?_
  refine jp_load (pc2 := 23) (n := 1) rfl rfl rfl rfl ?_
  refine jp_load (pc2 := 25) (n := 4) rfl rfl rfl rfl ?_
  refine jp_load (pc2 := 26) (n := 3) rfl rfl rfl rfl ?_
  exact jp_virt0 (pc2 := 29) (As := [(.ref r_1), (.int x_4), (.int x_3)]) (rest := []) rfl rfl rfl (Nat.le_of_ble_eq_true rfl) e2 m3 m4 hc rfl K
theorem b21_29 {r_0 : Nat} {r_1 : Nat} {x_2 : Int32} {x_3 : Int32} {x_4 : Int32} {o_5 : Option Value}  (K : ip sc call 21 MC MS Q 33 [some (.ref r_0), some (.ref r_1), some (.int x_2), some (.int x_3), some (.int x_4), some (.int x_4)] [] h z c s) : ip sc call 21 MC MS Q 29 [some (.ref r_0), some (.ref r_1), some (.int x_2), some (.int x_3), some (.int x_4), o_5] [] h z c s := by
  refine jp_load (pc2 := 31) (n := 4) rfl rfl rfl rfl ?_
  refine jp_store (pc2 := 33) (n := 5) rfl rfl ⟨rfl, rfl⟩ rfl (Nat.le_of_ble_eq_true rfl) ?_
  exact K
theorem b21_33 {r_0 : Nat} {r_1 : Nat} {x_2 : Int32} {x_3 : Int32} {x_4 : Int32} {x_5 : Int32} {fs1 : List Value} {q_fs1_3 : Nat} {n4 : Nat} {f5 : Nat → Int32} (e2 : h r_1 = some (.inr (6, fs1))) (e3 : fs1[3]? = some (.ref q_fs1_3)) (e6 : h q_fs1_3 = some (.inl (0, n4, .inl f5))) (b7 : vp_in x_2 n4) (K1 : x_5 ≤ (f5 x_2.toNatClampNeg) → ip sc call 21 MC MS Q 101 [some (.ref r_0), some (.ref r_1), some (.int x_2), some (.int x_3), some (.int x_4), some (.int x_5)] [] h z c s) (K2 : ¬ (x_5 ≤ (f5 x_2.toNatClampNeg)) → ip sc call 21 MC MS Q 44 [some (.ref r_0), some (.ref r_1), some (.int x_2), some (.int x_3), some (.int x_4), some (.int x_5)] [] h z c s) : ip sc call 21 MC MS Q 33 [some (.ref r_0), some (.ref r_1), some (.int x_2), some (.int x_3), some (.int x_4), some (.int x_5)] [] h z c s := by
  refine jp_load (pc2 := 35) (n := 5) rfl rfl rfl rfl ?_
  refine jp_load (pc2 := 36) (n := 1) rfl rfl rfl rfl ?_
  refine jp_getf (pc2 := 39) rfl rfl e2 e3 ?_
  refine jp_load (pc2 := 40) (n := 2) rfl rfl rfl rfl ?_
  refine jp_iald (pc2 := 41) rfl rfl e6 b7 ?_
  exact jp_icmp (pc2 := 44) rfl rfl K1 K2
theorem b21_44 {r_0 : Nat} {r_1 : Nat} {x_2 : Int32} {x_3 : Int32} {x_4 : Int32} {x_5 : Int32} {fs1 : List Value} {q_fs1_4 : Nat} {q_fs1_3 : Nat} {n5 : Nat} {f6 : Nat → Int32} {n9 : Nat} {f10 : Nat → Int64} (e2 : h r_0 = some (.inr (3, fs1))) (e3 : fs1[4]? = some (.ref q_fs1_4)) (e4 : fs1[3]? = some (.ref q_fs1_3)) (e7 : h q_fs1_3 = some (.inl (0, n5, .inl f6))) (b8 : vp_in ((x_3 + x_5) - 1) n5) (e11 : h q_fs1_4 = some (.inl (1, n9, .inr (.inl f10)))) (b12 : vp_in (x_3 + (f6 ((x_3 + x_5) - 1).toNatClampNeg)) n9) (b13 : vp_in (x_3 + x_4) n9) (K1 : (lg_cmp (f10 (x_3 + (f6 ((x_3 + x_5) - 1).toNatClampNeg)).toNatClampNeg) (f10 (x_3 + x_4).toNatClampNeg)) ≤ 0 → ip sc call 21 MC MS Q 101 [some (.ref r_0), some (.ref r_1), some (.int x_2), some (.int x_3), some (.int x_4), some (.int x_5)] [] h z c s) (K2 : ¬ ((lg_cmp (f10 (x_3 + (f6 ((x_3 + x_5) - 1).toNatClampNeg)).toNatClampNeg) (f10 (x_3 + x_4).toNatClampNeg)) ≤ 0) → ip sc call 21 MC MS Q 75 [some (.ref r_0), some (.ref r_1), some (.int x_2), some (.int x_3), some (.int x_4), some (.int x_5)] [] h z c s) : ip sc call 21 MC MS Q 44 [some (.ref r_0), some (.ref r_1), some (.int x_2), some (.int x_3), some (.int x_4), some (.int x_5)] [] h z c s := by
  refine jp_load (pc2 := 45) (n := 0) rfl rfl rfl rfl ?_
  refine jp_getf (pc2 := 48) rfl rfl e2 e3 ?_
  refine jp_load (pc2 := 49) (n := 3) rfl rfl rfl rfl ?_
  refine jp_load (pc2 := 50) (n := 0) rfl rfl rfl rfl ?_
  refine jp_getf (pc2 := 53) rfl rfl e2 e4 ?_
  refine jp_load (pc2 := 54) (n := 3) rfl rfl rfl rfl ?_
  refine jp_load (pc2 := 56) (n := 5) rfl rfl rfl rfl ?_
  refine jp_bin (pc2 := 57) (v := x_3 + x_5) rfl rfl rfl ?_
  refine jp_con (pc2 := 58) (v := .int 1) rfl rfl rfl ?_
  refine jp_bin (pc2 := 59) (v := (x_3 + x_5) - 1) rfl rfl rfl ?_
  refine jp_iald (pc2 := 60) rfl rfl e7 b8 ?_
  refine jp_bin (pc2 := 61) (v := x_3 + (f6 ((x_3 + x_5) - 1).toNatClampNeg)) rfl rfl rfl ?_
  refine jp_lald (pc2 := 62) rfl rfl e11 b12 ?_
  refine jp_load (pc2 := 63) (n := 0) rfl rfl rfl rfl ?_
  refine jp_getf (pc2 := 66) rfl rfl e2 e3 ?_
  refine jp_load (pc2 := 67) (n := 3) rfl rfl rfl rfl ?_
  refine jp_load (pc2 := 69) (n := 4) rfl rfl rfl rfl ?_
  refine jp_bin (pc2 := 70) (v := x_3 + x_4) rfl rfl rfl ?_
  refine jp_lald (pc2 := 71) rfl rfl e11 b13 ?_
  refine jp_lcmp (pc2 := 72) rfl rfl ?_
  exact jp_if0 (pc2 := 75) rfl rfl K1 K2
theorem b21_75 {r_0 : Nat} {r_1 : Nat} {x_2 : Int32} {x_3 : Int32} {x_4 : Int32} {x_5 : Int32} {fs1 : List Value} {q_fs1_3 : Nat} {n4 : Nat} {f5 : Nat → Int32} (e2 : h r_0 = some (.inr (3, fs1))) (e3 : fs1[3]? = some (.ref q_fs1_3)) (e6 : h q_fs1_3 = some (.inl (0, n4, .inl f5))) (b7 : vp_in ((x_3 + x_5) - 1) n4) (b8 : vp_in (x_3 + x_5) n4) (K : ip sc call 21 MC MS Q 33 [some (.ref r_0), some (.ref r_1), some (.int x_2), some (.int x_3), some (.int x_4), some (.int (x_5 + (-1)))] [] (hup h q_fs1_3 (.inl (0, n4, .inl (upd f5 (x_3 + x_5).toNatClampNeg (f5 ((x_3 + x_5) - 1).toNatClampNeg))))) z c s) : ip sc call 21 MC MS Q 75 [some (.ref r_0), some (.ref r_1), some (.int x_2), some (.int x_3), some (.int x_4), some (.int x_5)] [] h z c s := by
  refine jp_load (pc2 := 76) (n := 0) rfl rfl rfl rfl ?_
  refine jp_getf (pc2 := 79) rfl rfl e2 e3 ?_
  refine jp_load (pc2 := 80) (n := 3) rfl rfl rfl rfl ?_
  refine jp_load (pc2 := 82) (n := 5) rfl rfl rfl rfl ?_
  refine jp_bin (pc2 := 83) (v := x_3 + x_5) rfl rfl rfl ?_
  refine jp_load (pc2 := 84) (n := 0) rfl rfl rfl rfl ?_
  refine jp_getf (pc2 := 87) rfl rfl e2 e3 ?_
  refine jp_load (pc2 := 88) (n := 3) rfl rfl rfl rfl ?_
  refine jp_load (pc2 := 90) (n := 5) rfl rfl rfl rfl ?_
  refine jp_bin (pc2 := 91) (v := x_3 + x_5) rfl rfl rfl ?_
  refine jp_con (pc2 := 92) (v := .int 1) rfl rfl rfl ?_
  refine jp_bin (pc2 := 93) (v := (x_3 + x_5) - 1) rfl rfl rfl ?_
  refine jp_iald (pc2 := 94) rfl rfl e6 b7 ?_
  refine jp_iast (pc2 := 95) rfl rfl e6 b8 ?_
  refine jp_iinc (pc2 := 98) (n := 5) (v := x_5 + (-1)) rfl rfl rfl rfl rfl ?_
  refine ip_goto rfl ?_
  exact K
theorem b21_101 {r_0 : Nat} {r_1 : Nat} {x_2 : Int32} {x_3 : Int32} {x_4 : Int32} {x_5 : Int32} {fs1 : List Value} {q_fs1_3 : Nat} {n4 : Nat} {f5 : Nat → Int32} (e2 : h r_0 = some (.inr (3, fs1))) (e3 : fs1[3]? = some (.ref q_fs1_3)) (e6 : h q_fs1_3 = some (.inl (0, n4, .inl f5))) (b7 : vp_in (x_3 + x_5) n4) (K : ip sc call 21 MC MS Q 8 [some (.ref r_0), some (.ref r_1), some (.int x_2), some (.int x_3), some (.int (x_4 + 1)), some (.int x_5)] [] (hup h q_fs1_3 (.inl (0, n4, .inl (upd f5 (x_3 + x_5).toNatClampNeg x_4)))) z c s) : ip sc call 21 MC MS Q 101 [some (.ref r_0), some (.ref r_1), some (.int x_2), some (.int x_3), some (.int x_4), some (.int x_5)] [] h z c s := by
  refine jp_load (pc2 := 102) (n := 0) rfl rfl rfl rfl ?_
  refine jp_getf (pc2 := 105) rfl rfl e2 e3 ?_
  refine jp_load (pc2 := 106) (n := 3) rfl rfl rfl rfl ?_
  refine jp_load (pc2 := 108) (n := 5) rfl rfl rfl rfl ?_
  refine jp_bin (pc2 := 109) (v := x_3 + x_5) rfl rfl rfl ?_
  refine jp_load (pc2 := 111) (n := 4) rfl rfl rfl rfl ?_
  refine jp_iast (pc2 := 112) rfl rfl e6 b7 ?_
  refine jp_iinc (pc2 := 115) (n := 4) (v := x_4 + 1) rfl rfl rfl rfl rfl ?_
  refine ip_goto rfl ?_
  exact K
theorem b21_118 {o_0 : Option Value} {o_1 : Option Value} {o_2 : Option Value} {o_3 : Option Value} {o_4 : Option Value} {o_5 : Option Value} (q1 : Q none h z)  : ip sc call 21 MC MS Q 118 [o_0, o_1, o_2, o_3, o_4, o_5] [] h z c s := by
  exact ip_vret (st := []) rfl rfl q1
theorem b22_0 {r_0 : Nat} {r_1 : Nat} {x_2 : Int32} {x_3 : Int32} {x_4 : Int32} {o_5 : Option Value} {o_6 : Option Value} {o_7 : Option Value} {o_8 : Option Value} {o_9 : Option Value} {o_10 : Option Value} {o_11 : Option Value} {fs1 : List Value} {q_fs1_6 : Nat} {n4 : Nat} {f5 : Nat → Int32} {fs8 : List Value} {P : ipQ} (e2 : h r_0 = some (.inr (3, fs1))) (e3 : fs1[6]? = some (.ref q_fs1_6)) (e6 : h q_fs1_6 = some (.inl (0, n4, .inl f5))) (b7 : vp_in x_2 n4) (e9 : h r_1 = some (.inr (6, fs8))) (m10 : c ≤ MC) (m11 : s ≤ MS) (hc : call 39 [(.ref r_1), (.int x_2)] h z 0 0 P) (K : ∀ (o : Option Value) (h2 : HP) (z2 : Nat), P o h2 z2 → ip sc call 22 MC MS Q 13 [some (.ref r_0), some (.ref r_1), some (.int x_2), some (.int x_3), some (.int x_4), some (.int (f5 x_2.toNatClampNeg)), o_6, o_7, o_8, o_9, o_10, o_11] (o.toList ++ []) h2 z2 c s) : ip sc call 22 MC MS Q 0 [some (.ref r_0), some (.ref r_1), some (.int x_2), some (.int x_3), some (.int x_4), o_5, o_6, o_7, o_8, o_9, o_10, o_11] [] h z c s := by
  refine jp_load (pc2 := 1) (n := 0) rfl rfl rfl rfl ?_
  refine jp_getf (pc2 := 4) rfl rfl e2 e3 ?_
  refine jp_load (pc2 := 5) (n := 2) rfl rfl rfl rfl ?_
  refine jp_iald (pc2 := 6) rfl rfl e6 b7 ?_
  refine jp_store (pc2 := 8) (n := 5) rfl rfl ⟨rfl, rfl⟩ rfl (Nat.le_of_ble_eq_true rfl) ?_
  refine jp_load (pc2 := 9) (n := 1) rfl rfl rfl rfl ?_
  refine jp_load (pc2 := 10) (n := 2) rfl rfl rfl rfl ?_
  exact jp_virt0 (pc2 := 13) (As := [(.int x_2)]) (rest := []) rfl rfl rfl (Nat.le_of_ble_eq_true rfl) e9 m10 m11 hc rfl K
theorem b22_13 {r_0 : Nat} {r_1 : Nat} {x_2 : Int32} {x_3 : Int32} {x_4 : Int32} {x_5 : Int32} {o_6 : Option Value} {o_7 : Option Value} {o_8 : Option Value} {o_9 : Option Value} {o_10 : Option Value} {o_11 : Option Value} {sx_0 : Int32} {fs1 : List Value} {P : ipQ} (e2 : h r_1 = some (.inr (6, fs1))) (m3 : c ≤ MC) (m4 : s ≤ MS) (hc : call 39 [(.ref r_1), (.int x_3)] h z 0 0 P) (K : ∀ (o : Option Value) (h2 : HP) (z2 : Nat), P o h2 z2 → ip sc call 22 MC MS Q 22 [some (.ref r_0), some (.ref r_1), some (.int x_2), some (.int x_3), some (.int x_4), some (.int x_5), some (.int sx_0), o_7, o_8, o_9, o_10, o_11] (o.toList ++ [(.int sx_0)]) h2 z2 c s) : ip sc call 22 MC MS Q 13 [some (.ref r_0), some (.ref r_1), some (.int x_2), some (.int x_3), some (.int x_4), some (.int x_5), o_6, o_7, o_8, o_9, o_10, o_11] [(.int sx_0)] h z c s := by
  refine jp_store (pc2 := 15) (n := 6) rfl rfl ⟨rfl, rfl⟩ rfl (Nat.le_of_ble_eq_true rfl) ?_
  refine jp_load (pc2 := 17) (n := 6) rfl rfl rfl rfl ?_
  refine jp_load (pc2 := 18) (n := 1) rfl rfl rfl rfl ?_
  refine jp_load (pc2 := 19) (n := 3) rfl rfl rfl rfl ?_
  exact jp_virt0 (pc2 := 22) (As := [(.int x_3)]) (rest := [(.int sx_0)]) rfl rfl rfl (Nat.le_of_ble_eq_true rfl) e2 m3 m4 hc rfl K
theorem b22_22 {r_0 : Nat} {r_1 : Nat} {x_2 : Int32} {x_3 : Int32} {x_4 : Int32} {x_5 : Int32} {x_6 : Int32} {o_7 : Option Value} {o_8 : Option Value} {o_9 : Option Value} {o_10 : Option Value} {o_11 : Option Value} {sx_0 : Int32} {sx_1 : Int32}  (K1 : sx_0 = sx_1 → ip sc call 22 MC MS Q 34 [some (.ref r_0), some (.ref r_1), some (.int x_2), some (.int x_3), some (.int x_4), some (.int x_5), some (.int x_6), o_7, o_8, o_9, o_10, o_11] [] h z c s) (K2 : ¬ (sx_0 = sx_1) → ip sc call 22 MC MS Q 25 [some (.ref r_0), some (.ref r_1), some (.int x_2), some (.int x_3), some (.int x_4), some (.int x_5), some (.int x_6), o_7, o_8, o_9, o_10, o_11] [] h z c s) : ip sc call 22 MC MS Q 22 [some (.ref r_0), some (.ref r_1), some (.int x_2), some (.int x_3), some (.int x_4), some (.int x_5), some (.int x_6), o_7, o_8, o_9, o_10, o_11] [(.int sx_1), (.int sx_0)] h z c s := by
  exact jp_icmp (pc2 := 25) rfl rfl K1 K2
theorem b22_25 {o_0 : Option Value} {r_1 : Nat} {o_2 : Option Value} {x_3 : Int32} {o_4 : Option Value} {o_5 : Option Value} {x_6 : Int32} {o_7 : Option Value} {o_8 : Option Value} {o_9 : Option Value} {o_10 : Option Value} {o_11 : Option Value} {fs1 : List Value} {P : ipQ} (e2 : h r_1 = some (.inr (6, fs1))) (m3 : c ≤ MC) (m4 : s ≤ MS) (hc : call 39 [(.ref r_1), (.int x_3)] h z 0 0 P) (K : ∀ (o : Option Value) (h2 : HP) (z2 : Nat), P o h2 z2 → ip sc call 22 MC MS Q 32 [o_0, some (.ref r_1), o_2, some (.int x_3), o_4, o_5, some (.int x_6), o_7, o_8, o_9, o_10, o_11] (o.toList ++ [(.int x_6)]) h2 z2 c s) : ip sc call 22 MC MS Q 25 [o_0, some (.ref r_1), o_2, some (.int x_3), o_4, o_5, some (.int x_6), o_7, o_8, o_9, o_10, o_11] [] h z c s := by
  refine jp_load (pc2 := 27) (n := 6) rfl rfl rfl rfl ?_
  refine jp_load (pc2 := 28) (n := 1) rfl rfl rfl rfl ?_
  refine jp_load (pc2 := 29) (n := 3) rfl rfl rfl rfl ?_
  exact jp_virt0 (pc2 := 32) (As := [(.int x_3)]) (rest := [(.int x_6)]) rfl rfl rfl (Nat.le_of_ble_eq_true rfl) e2 m3 m4 hc rfl K
theorem b22_32 {o_0 : Option Value} {o_1 : Option Value} {o_2 : Option Value} {o_3 : Option Value} {o_4 : Option Value} {o_5 : Option Value} {o_6 : Option Value} {o_7 : Option Value} {o_8 : Option Value} {o_9 : Option Value} {o_10 : Option Value} {o_11 : Option Value} {sx_0 : Int32} {sx_1 : Int32} (q1 : Q (some (.int (sx_0 - sx_1))) h z)  : ip sc call 22 MC MS Q 32 [o_0, o_1, o_2, o_3, o_4, o_5, o_6, o_7, o_8, o_9, o_10, o_11] [(.int sx_1), (.int sx_0)] h z c s := by
  refine jp_bin (pc2 := 33) (v := sx_0 - sx_1) rfl rfl rfl ?_
  exact ip_iret (st := []) rfl rfl rfl q1
theorem b22_34 {r_0 : Nat} {r_1 : Nat} {x_2 : Int32} {x_3 : Int32} {x_4 : Int32} {x_5 : Int32} {x_6 : Int32} {o_7 : Option Value} {o_8 : Option Value} {o_9 : Option Value} {o_10 : Option Value} {o_11 : Option Value}  (K : ip sc call 22 MC MS Q 37 [some (.ref r_0), some (.ref r_1), some (.int x_2), some (.int x_3), some (.int x_4), some (.int x_5), some (.int x_6), some (.int 0), o_8, o_9, o_10, o_11] [] h z c s) : ip sc call 22 MC MS Q 34 [some (.ref r_0), some (.ref r_1), some (.int x_2), some (.int x_3), some (.int x_4), some (.int x_5), some (.int x_6), o_7, o_8, o_9, o_10, o_11] [] h z c s := by
  refine jp_con (pc2 := 35) (v := .int 0) rfl rfl rfl ?_
  refine jp_store (pc2 := 37) (n := 7) rfl rfl ⟨rfl, rfl⟩ rfl (Nat.le_of_ble_eq_true rfl) ?_
  exact K
theorem b22_37 {r_0 : Nat} {r_1 : Nat} {x_2 : Int32} {x_3 : Int32} {x_4 : Int32} {x_5 : Int32} {x_6 : Int32} {x_7 : Int32} {o_8 : Option Value} {o_9 : Option Value} {o_10 : Option Value} {o_11 : Option Value}  (K1 : x_6 ≤ x_7 → ip sc call 22 MC MS Q 126 [some (.ref r_0), some (.ref r_1), some (.int x_2), some (.int x_3), some (.int x_4), some (.int x_5), some (.int x_6), some (.int x_7), o_8, o_9, o_10, o_11] [] h z c s) (K2 : ¬ (x_6 ≤ x_7) → ip sc call 22 MC MS Q 44 [some (.ref r_0), some (.ref r_1), some (.int x_2), some (.int x_3), some (.int x_4), some (.int x_5), some (.int x_6), some (.int x_7), o_8, o_9, o_10, o_11] [] h z c s) : ip sc call 22 MC MS Q 37 [some (.ref r_0), some (.ref r_1), some (.int x_2), some (.int x_3), some (.int x_4), some (.int x_5), some (.int x_6), some (.int x_7), o_8, o_9, o_10, o_11] [] h z c s := by
  refine jp_load (pc2 := 39) (n := 7) rfl rfl rfl rfl ?_
  refine jp_load (pc2 := 41) (n := 6) rfl rfl rfl rfl ?_
  exact jp_icmp (pc2 := 44) rfl rfl K1 K2
theorem b22_44 {r_0 : Nat} {r_1 : Nat} {x_2 : Int32} {x_3 : Int32} {x_4 : Int32} {x_5 : Int32} {x_6 : Int32} {x_7 : Int32} {o_8 : Option Value} {o_9 : Option Value} {o_10 : Option Value} {o_11 : Option Value} {fs1 : List Value} {q_fs1_4 : Nat} {q_fs1_3 : Nat} {fs5 : List Value} {q_fs5_3 : Nat} {n8 : Nat} {f9 : Nat → Int32} {n12 : Nat} {f13 : Nat → Int32} {n16 : Nat} {f17 : Nat → Int64} (e2 : h r_0 = some (.inr (3, fs1))) (e3 : fs1[4]? = some (.ref q_fs1_4)) (e4 : fs1[3]? = some (.ref q_fs1_3)) (e6 : h r_1 = some (.inr (6, fs5))) (e7 : fs5[3]? = some (.ref q_fs5_3)) (e10 : h q_fs5_3 = some (.inl (0, n8, .inl f9))) (b11 : vp_in x_2 n8) (e14 : h q_fs1_3 = some (.inl (0, n12, .inl f13))) (b15 : vp_in ((x_5 + (f9 x_2.toNatClampNeg)) + x_7) n12) (e18 : h q_fs1_4 = some (.inl (1, n16, .inr (.inl f17)))) (b19 : vp_in (x_5 + (f13 ((x_5 + (f9 x_2.toNatClampNeg)) + x_7).toNatClampNeg)) n16) (b20 : vp_in x_3 n8) (b21 : vp_in ((x_4 + (f9 x_3.toNatClampNeg)) + x_7) n12) (b22 : vp_in (x_4 + (f13 ((x_4 + (f9 x_3.toNatClampNeg)) + x_7).toNatClampNeg)) n16) (k23 : ip2 none = false) (K1 : (lg_cmp (f17 (x_5 + (f13 ((x_5 + (f9 x_2.toNatClampNeg)) + x_7).toNatClampNeg)).toNatClampNeg) (f17 (x_4 + (f13 ((x_4 + (f9 x_3.toNatClampNeg)) + x_7).toNatClampNeg)).toNatClampNeg)) = 0 → ip sc call 22 MC MS Q 120 [some (.ref r_0), some (.ref r_1), some (.int x_2), some (.int x_3), some (.int x_4), some (.int x_5), some (.int x_6), some (.int x_7), some (.long (f17 (x_5 + (f13 ((x_5 + (f9 x_2.toNatClampNeg)) + x_7).toNatClampNeg)).toNatClampNeg)), none, some (.long (f17 (x_4 + (f13 ((x_4 + (f9 x_3.toNatClampNeg)) + x_7).toNatClampNeg)).toNatClampNeg)), none] [] h z c s) (K2 : ¬ ((lg_cmp (f17 (x_5 + (f13 ((x_5 + (f9 x_2.toNatClampNeg)) + x_7).toNatClampNeg)).toNatClampNeg) (f17 (x_4 + (f13 ((x_4 + (f9 x_3.toNatClampNeg)) + x_7).toNatClampNeg)).toNatClampNeg)) = 0) → ip sc call 22 MC MS Q 106 [some (.ref r_0), some (.ref r_1), some (.int x_2), some (.int x_3), some (.int x_4), some (.int x_5), some (.int x_6), some (.int x_7), some (.long (f17 (x_5 + (f13 ((x_5 + (f9 x_2.toNatClampNeg)) + x_7).toNatClampNeg)).toNatClampNeg)), none, some (.long (f17 (x_4 + (f13 ((x_4 + (f9 x_3.toNatClampNeg)) + x_7).toNatClampNeg)).toNatClampNeg)), none] [] h z c s) : ip sc call 22 MC MS Q 44 [some (.ref r_0), some (.ref r_1), some (.int x_2), some (.int x_3), some (.int x_4), some (.int x_5), some (.int x_6), some (.int x_7), o_8, o_9, o_10, o_11] [] h z c s := by
  refine jp_load (pc2 := 45) (n := 0) rfl rfl rfl rfl ?_
  refine jp_getf (pc2 := 48) rfl rfl e2 e3 ?_
  refine jp_load (pc2 := 50) (n := 5) rfl rfl rfl rfl ?_
  refine jp_load (pc2 := 51) (n := 0) rfl rfl rfl rfl ?_
  refine jp_getf (pc2 := 54) rfl rfl e2 e4 ?_
  refine jp_load (pc2 := 56) (n := 5) rfl rfl rfl rfl ?_
  refine jp_load (pc2 := 57) (n := 1) rfl rfl rfl rfl ?_
  refine jp_getf (pc2 := 60) rfl rfl e6 e7 ?_
  refine jp_load (pc2 := 61) (n := 2) rfl rfl rfl rfl ?_
  refine jp_iald (pc2 := 62) rfl rfl e10 b11 ?_
  refine jp_bin (pc2 := 63) (v := x_5 + (f9 x_2.toNatClampNeg)) rfl rfl rfl ?_
  refine jp_load (pc2 := 65) (n := 7) rfl rfl rfl rfl ?_
  refine jp_bin (pc2 := 66) (v := (x_5 + (f9 x_2.toNatClampNeg)) + x_7) rfl rfl rfl ?_
  refine jp_iald (pc2 := 67) rfl rfl e14 b15 ?_
  refine jp_bin (pc2 := 68) (v := x_5 + (f13 ((x_5 + (f9 x_2.toNatClampNeg)) + x_7).toNatClampNeg)) rfl rfl rfl ?_
  refine jp_lald (pc2 := 69) rfl rfl e18 b19 ?_
  refine jp_store2 (pc2 := 71) (n := 8) rfl rfl ⟨rfl, rfl⟩ rfl (Nat.le_of_ble_eq_true rfl) ?_
  refine jp_load (pc2 := 72) (n := 0) rfl rfl rfl rfl ?_
  refine jp_getf (pc2 := 75) rfl rfl e2 e3 ?_
  refine jp_load (pc2 := 77) (n := 4) rfl rfl rfl rfl ?_
  refine jp_load (pc2 := 78) (n := 0) rfl rfl rfl rfl ?_
  refine jp_getf (pc2 := 81) rfl rfl e2 e4 ?_
  refine jp_load (pc2 := 83) (n := 4) rfl rfl rfl rfl ?_
  refine jp_load (pc2 := 84) (n := 1) rfl rfl rfl rfl ?_
  refine jp_getf (pc2 := 87) rfl rfl e6 e7 ?_
  refine jp_load (pc2 := 88) (n := 3) rfl rfl rfl rfl ?_
  refine jp_iald (pc2 := 89) rfl rfl e10 b20 ?_
  refine jp_bin (pc2 := 90) (v := x_4 + (f9 x_3.toNatClampNeg)) rfl rfl rfl ?_
  refine jp_load (pc2 := 92) (n := 7) rfl rfl rfl rfl ?_
  refine jp_bin (pc2 := 93) (v := (x_4 + (f9 x_3.toNatClampNeg)) + x_7) rfl rfl rfl ?_
  refine jp_iald (pc2 := 94) rfl rfl e14 b21 ?_
  refine jp_bin (pc2 := 95) (v := x_4 + (f13 ((x_4 + (f9 x_3.toNatClampNeg)) + x_7).toNatClampNeg)) rfl rfl rfl ?_
  refine jp_lald (pc2 := 96) rfl rfl e18 b22 ?_
  refine jp_store2 (pc2 := 98) (n := 10) rfl rfl ⟨rfl, rfl⟩ k23 (Nat.le_of_ble_eq_true rfl) ?_
  refine jp_load (pc2 := 100) (n := 8) rfl rfl rfl rfl ?_
  refine jp_load (pc2 := 102) (n := 10) rfl rfl rfl rfl ?_
  refine jp_lcmp (pc2 := 103) rfl rfl ?_
  exact jp_if0 (pc2 := 106) rfl rfl K1 K2
theorem b22_106 {o_0 : Option Value} {o_1 : Option Value} {o_2 : Option Value} {o_3 : Option Value} {o_4 : Option Value} {o_5 : Option Value} {o_6 : Option Value} {o_7 : Option Value} {y_8 : Int64} {o_9 : Option Value} {y_10 : Int64} {o_11 : Option Value}  (K1 : (0 : Int32) ≤ (lg_cmp y_8 y_10) → ip sc call 22 MC MS Q 118 [o_0, o_1, o_2, o_3, o_4, o_5, o_6, o_7, some (.long y_8), o_9, some (.long y_10), o_11] [] h z c s) (K2 : ¬ ((0 : Int32) ≤ (lg_cmp y_8 y_10)) → ip sc call 22 MC MS Q 114 [o_0, o_1, o_2, o_3, o_4, o_5, o_6, o_7, some (.long y_8), o_9, some (.long y_10), o_11] [] h z c s) : ip sc call 22 MC MS Q 106 [o_0, o_1, o_2, o_3, o_4, o_5, o_6, o_7, some (.long y_8), o_9, some (.long y_10), o_11] [] h z c s := by
  refine jp_load (pc2 := 108) (n := 8) rfl rfl rfl rfl ?_
  refine jp_load (pc2 := 110) (n := 10) rfl rfl rfl rfl ?_
  refine jp_lcmp (pc2 := 111) rfl rfl ?_
  exact jp_if0 (pc2 := 114) rfl rfl K1 K2
theorem b22_114 {o_0 : Option Value} {o_1 : Option Value} {o_2 : Option Value} {o_3 : Option Value} {o_4 : Option Value} {o_5 : Option Value} {o_6 : Option Value} {o_7 : Option Value} {o_8 : Option Value} {o_9 : Option Value} {o_10 : Option Value} {o_11 : Option Value}  (K : ip sc call 22 MC MS Q 119 [o_0, o_1, o_2, o_3, o_4, o_5, o_6, o_7, o_8, o_9, o_10, o_11] [(.int ((-1)))] h z c s) : ip sc call 22 MC MS Q 114 [o_0, o_1, o_2, o_3, o_4, o_5, o_6, o_7, o_8, o_9, o_10, o_11] [] h z c s := by
  refine jp_con (pc2 := 115) (v := .int (-1)) rfl rfl rfl ?_
  refine ip_goto rfl ?_
  exact K
theorem b22_118 {o_0 : Option Value} {o_1 : Option Value} {o_2 : Option Value} {o_3 : Option Value} {o_4 : Option Value} {o_5 : Option Value} {o_6 : Option Value} {o_7 : Option Value} {o_8 : Option Value} {o_9 : Option Value} {o_10 : Option Value} {o_11 : Option Value}  (K : ip sc call 22 MC MS Q 119 [o_0, o_1, o_2, o_3, o_4, o_5, o_6, o_7, o_8, o_9, o_10, o_11] [(.int 1)] h z c s) : ip sc call 22 MC MS Q 118 [o_0, o_1, o_2, o_3, o_4, o_5, o_6, o_7, o_8, o_9, o_10, o_11] [] h z c s := by
  refine jp_con (pc2 := 119) (v := .int 1) rfl rfl rfl ?_
  exact K
theorem b22_119 {o_0 : Option Value} {o_1 : Option Value} {o_2 : Option Value} {o_3 : Option Value} {o_4 : Option Value} {o_5 : Option Value} {o_6 : Option Value} {o_7 : Option Value} {o_8 : Option Value} {o_9 : Option Value} {o_10 : Option Value} {o_11 : Option Value} {sx_0 : Int32} (q1 : Q (some (.int sx_0)) h z)  : ip sc call 22 MC MS Q 119 [o_0, o_1, o_2, o_3, o_4, o_5, o_6, o_7, o_8, o_9, o_10, o_11] [(.int sx_0)] h z c s := by
  exact ip_iret (st := []) rfl rfl rfl q1
theorem b22_120 {r_0 : Nat} {r_1 : Nat} {x_2 : Int32} {x_3 : Int32} {x_4 : Int32} {x_5 : Int32} {x_6 : Int32} {x_7 : Int32} {o_8 : Option Value} {o_9 : Option Value} {o_10 : Option Value} {o_11 : Option Value}  (K : ip sc call 22 MC MS Q 37 [some (.ref r_0), some (.ref r_1), some (.int x_2), some (.int x_3), some (.int x_4), some (.int x_5), some (.int x_6), some (.int (x_7 + 1)), o_8, o_9, o_10, o_11] [] h z c s) : ip sc call 22 MC MS Q 120 [some (.ref r_0), some (.ref r_1), some (.int x_2), some (.int x_3), some (.int x_4), some (.int x_5), some (.int x_6), some (.int x_7), o_8, o_9, o_10, o_11] [] h z c s := by
  refine jp_iinc (pc2 := 123) (n := 7) (v := x_7 + 1) rfl rfl rfl rfl rfl ?_
  refine ip_goto rfl ?_
  exact K
theorem b22_126 {o_0 : Option Value} {o_1 : Option Value} {o_2 : Option Value} {o_3 : Option Value} {o_4 : Option Value} {o_5 : Option Value} {o_6 : Option Value} {o_7 : Option Value} {o_8 : Option Value} {o_9 : Option Value} {o_10 : Option Value} {o_11 : Option Value} (q1 : Q (some (.int 0)) h z)  : ip sc call 22 MC MS Q 126 [o_0, o_1, o_2, o_3, o_4, o_5, o_6, o_7, o_8, o_9, o_10, o_11] [] h z c s := by
  refine jp_con (pc2 := 127) (v := .int 0) rfl rfl rfl ?_
  exact ip_iret (st := []) rfl rfl rfl q1
theorem b23_0 {r_0 : Nat} {r_1 : Nat} {x_2 : Int32} {x_3 : Int32} {o_4 : Option Value} {o_5 : Option Value} {o_6 : Option Value} {o_7 : Option Value} {o_8 : Option Value} {o_9 : Option Value} {o_10 : Option Value} {o_11 : Option Value} {o_12 : Option Value} {o_13 : Option Value} {o_14 : Option Value} {fs1 : List Value} {q_fs1_2 : Nat} {n4 : Nat} {f5 : Nat → Int32} {P : ipQ} (e2 : h r_1 = some (.inr (6, fs1))) (e3 : fs1[2]? = some (.ref q_fs1_2)) (e6 : h q_fs1_2 = some (.inl (0, n4, .inl f5))) (b7 : vp_in x_2 n4) (m8 : c ≤ MC) (m9 : s ≤ MS) (hc : call 41 [(.ref r_1), (.int x_2)] h z 0 0 P) (K : ∀ (o : Option Value) (h2 : HP) (z2 : Nat), P o h2 z2 → ip sc call 23 MC MS Q 13 [some (.ref r_0), some (.ref r_1), some (.int x_2), some (.int x_3), some (.int (f5 x_2.toNatClampNeg)), o_5, o_6, o_7, o_8, o_9, o_10, o_11, o_12, o_13, o_14] (o.toList ++ []) h2 z2 c s) : ip sc call 23 MC MS Q 0 [some (.ref r_0), some (.ref r_1), some (.int x_2), some (.int x_3), o_4, o_5, o_6, o_7, o_8, o_9, o_10, o_11, o_12, o_13, o_14] [] h z c s := by
  refine jp_load (pc2 := 1) (n := 1) rfl rfl rfl rfl ?_
  refine jp_getf (pc2 := 4) rfl rfl e2 e3 ?_
  refine jp_load (pc2 := 5) (n := 2) rfl rfl rfl rfl ?_
  refine jp_iald (pc2 := 6) rfl rfl e6 b7 ?_
  refine jp_store (pc2 := 8) (n := 4) rfl rfl ⟨rfl, rfl⟩ rfl (Nat.le_of_ble_eq_true rfl) ?_
  refine jp_load (pc2 := 9) (n := 1) rfl rfl rfl rfl ?_
  refine jp_load (pc2 := 10) (n := 2) rfl rfl rfl rfl ?_
  exact jp_virt0 (pc2 := 13) (As := [(.int x_2)]) (rest := []) rfl rfl rfl (Nat.le_of_ble_eq_true rfl) e2 m8 m9 hc rfl K
theorem b23_13 {r_0 : Nat} {r_1 : Nat} {x_2 : Int32} {x_3 : Int32} {x_4 : Int32} {o_5 : Option Value} {o_6 : Option Value} {o_7 : Option Value} {o_8 : Option Value} {o_9 : Option Value} {o_10 : Option Value} {o_11 : Option Value} {o_12 : Option Value} {o_13 : Option Value} {o_14 : Option Value} {sx_0 : Int32} (k1 : ip2 none = false) (K : ip sc call 23 MC MS Q 21 [some (.ref r_0), some (.ref r_1), some (.int x_2), some (.int x_3), some (.int x_4), some (.int sx_0), some (.long 0), none, some (.int 0), o_9, o_10, o_11, o_12, o_13, o_14] [] h z c s) : ip sc call 23 MC MS Q 13 [some (.ref r_0), some (.ref r_1), some (.int x_2), some (.int x_3), some (.int x_4), o_5, o_6, o_7, o_8, o_9, o_10, o_11, o_12, o_13, o_14] [(.int sx_0)] h z c s := by
  refine jp_store (pc2 := 15) (n := 5) rfl rfl ⟨rfl, rfl⟩ rfl (Nat.le_of_ble_eq_true rfl) ?_
  refine jp_con (pc2 := 16) (v := .long 0) rfl rfl rfl ?_
  refine jp_store2 (pc2 := 18) (n := 6) rfl rfl ⟨rfl, rfl⟩ rfl (Nat.le_of_ble_eq_true rfl) ?_
  refine jp_con (pc2 := 19) (v := .int 0) rfl rfl rfl ?_
  refine jp_store (pc2 := 21) (n := 8) rfl rfl ⟨rfl, rfl⟩ k1 (Nat.le_of_ble_eq_true rfl) ?_
  exact K
theorem b23_21 {r_0 : Nat} {r_1 : Nat} {x_2 : Int32} {x_3 : Int32} {x_4 : Int32} {x_5 : Int32} {y_6 : Int64} {o_7 : Option Value} {x_8 : Int32} {o_9 : Option Value} {o_10 : Option Value} {o_11 : Option Value} {o_12 : Option Value} {o_13 : Option Value} {o_14 : Option Value}  (K1 : x_5 ≤ x_8 → ip sc call 23 MC MS Q 78 [some (.ref r_0), some (.ref r_1), some (.int x_2), some (.int x_3), some (.int x_4), some (.int x_5), some (.long y_6), o_7, some (.int x_8), o_9, o_10, o_11, o_12, o_13, o_14] [] h z c s) (K2 : ¬ (x_5 ≤ x_8) → ip sc call 23 MC MS Q 28 [some (.ref r_0), some (.ref r_1), some (.int x_2), some (.int x_3), some (.int x_4), some (.int x_5), some (.long y_6), o_7, some (.int x_8), o_9, o_10, o_11, o_12, o_13, o_14] [] h z c s) : ip sc call 23 MC MS Q 21 [some (.ref r_0), some (.ref r_1), some (.int x_2), some (.int x_3), some (.int x_4), some (.int x_5), some (.long y_6), o_7, some (.int x_8), o_9, o_10, o_11, o_12, o_13, o_14] [] h z c s := by
  refine jp_load (pc2 := 23) (n := 8) rfl rfl rfl rfl ?_
  refine jp_load (pc2 := 25) (n := 5) rfl rfl rfl rfl ?_
  exact jp_icmp (pc2 := 28) rfl rfl K1 K2
theorem b23_28 {r_0 : Nat} {r_1 : Nat} {x_2 : Int32} {x_3 : Int32} {x_4 : Int32} {x_5 : Int32} {y_6 : Int64} {o_7 : Option Value} {x_8 : Int32} {o_9 : Option Value} {o_10 : Option Value} {o_11 : Option Value} {o_12 : Option Value} {o_13 : Option Value} {o_14 : Option Value}  (K1 : ¬ x_3 = 0 → ip sc call 23 MC MS Q 40 [some (.ref r_0), some (.ref r_1), some (.int x_2), some (.int x_3), some (.int x_4), some (.int x_5), some (.long y_6), o_7, some (.int x_8), o_9, o_10, o_11, o_12, o_13, o_14] [] h z c s) (K2 : ¬ (¬ x_3 = 0) → ip sc call 23 MC MS Q 32 [some (.ref r_0), some (.ref r_1), some (.int x_2), some (.int x_3), some (.int x_4), some (.int x_5), some (.long y_6), o_7, some (.int x_8), o_9, o_10, o_11, o_12, o_13, o_14] [] h z c s) : ip sc call 23 MC MS Q 28 [some (.ref r_0), some (.ref r_1), some (.int x_2), some (.int x_3), some (.int x_4), some (.int x_5), some (.long y_6), o_7, some (.int x_8), o_9, o_10, o_11, o_12, o_13, o_14] [] h z c s := by
  refine jp_load (pc2 := 29) (n := 3) rfl rfl rfl rfl ?_
  exact jp_if0 (pc2 := 32) rfl rfl K1 K2
theorem b23_32 {r_0 : Nat} {r_1 : Nat} {x_2 : Int32} {x_3 : Int32} {x_4 : Int32} {x_5 : Int32} {y_6 : Int64} {o_7 : Option Value} {x_8 : Int32} {o_9 : Option Value} {o_10 : Option Value} {o_11 : Option Value} {o_12 : Option Value} {o_13 : Option Value} {o_14 : Option Value}  (K : ip sc call 23 MC MS Q 50 [some (.ref r_0), some (.ref r_1), some (.int x_2), some (.int x_3), some (.int x_4), some (.int x_5), some (.long y_6), o_7, some (.int x_8), o_9, o_10, o_11, o_12, o_13, o_14] [(.int (x_4 + x_8))] h z c s) : ip sc call 23 MC MS Q 32 [some (.ref r_0), some (.ref r_1), some (.int x_2), some (.int x_3), some (.int x_4), some (.int x_5), some (.long y_6), o_7, some (.int x_8), o_9, o_10, o_11, o_12, o_13, o_14] [] h z c s := by
  refine jp_load (pc2 := 34) (n := 4) rfl rfl rfl rfl ?_
  refine jp_load (pc2 := 36) (n := 8) rfl rfl rfl rfl ?_
  refine jp_bin (pc2 := 37) (v := x_4 + x_8) rfl rfl rfl ?_
  refine ip_goto rfl ?_
  exact K
theorem b23_40 {r_0 : Nat} {r_1 : Nat} {x_2 : Int32} {x_3 : Int32} {x_4 : Int32} {x_5 : Int32} {y_6 : Int64} {o_7 : Option Value} {x_8 : Int32} {o_9 : Option Value} {o_10 : Option Value} {o_11 : Option Value} {o_12 : Option Value} {o_13 : Option Value} {o_14 : Option Value}  (K : ip sc call 23 MC MS Q 50 [some (.ref r_0), some (.ref r_1), some (.int x_2), some (.int x_3), some (.int x_4), some (.int x_5), some (.long y_6), o_7, some (.int x_8), o_9, o_10, o_11, o_12, o_13, o_14] [(.int (((x_4 + x_5) - 1) - x_8))] h z c s) : ip sc call 23 MC MS Q 40 [some (.ref r_0), some (.ref r_1), some (.int x_2), some (.int x_3), some (.int x_4), some (.int x_5), some (.long y_6), o_7, some (.int x_8), o_9, o_10, o_11, o_12, o_13, o_14] [] h z c s := by
  refine jp_load (pc2 := 42) (n := 4) rfl rfl rfl rfl ?_
  refine jp_load (pc2 := 44) (n := 5) rfl rfl rfl rfl ?_
  refine jp_bin (pc2 := 45) (v := x_4 + x_5) rfl rfl rfl ?_
  refine jp_con (pc2 := 46) (v := .int 1) rfl rfl rfl ?_
  refine jp_bin (pc2 := 47) (v := (x_4 + x_5) - 1) rfl rfl rfl ?_
  refine jp_load (pc2 := 49) (n := 8) rfl rfl rfl rfl ?_
  refine jp_bin (pc2 := 50) (v := ((x_4 + x_5) - 1) - x_8) rfl rfl rfl ?_
  exact K
theorem b23_50 {r_0 : Nat} {r_1 : Nat} {x_2 : Int32} {x_3 : Int32} {x_4 : Int32} {x_5 : Int32} {y_6 : Int64} {o_7 : Option Value} {x_8 : Int32} {o_9 : Option Value} {o_10 : Option Value} {o_11 : Option Value} {o_12 : Option Value} {o_13 : Option Value} {o_14 : Option Value} {sx_0 : Int32} {fs1 : List Value} {q_fs1_1 : Nat} {fs4 : List Value} {q_fs4_1 : Nat} {n7 : Nat} {f8 : Nat → Int32} {n11 : Nat} {f12 : Nat → Int32} (e2 : h r_0 = some (.inr (3, fs1))) (e3 : fs1[1]? = some (.ref q_fs1_1)) (e5 : h r_1 = some (.inr (6, fs4))) (e6 : fs4[1]? = some (.ref q_fs4_1)) (e9 : h q_fs4_1 = some (.inl (0, n7, .inl f8))) (b10 : vp_in sx_0 n7) (e13 : h q_fs1_1 = some (.inl (0, n11, .inl f12))) (b14 : vp_in (f8 sx_0.toNatClampNeg) n11) (k15 : ip2 none = false) (K : ip sc call 23 MC MS Q 21 [some (.ref r_0), some (.ref r_1), some (.int x_2), some (.int x_3), some (.int x_4), some (.int x_5), some (.long ((y_6 <<< ((4 : Int32).toInt64 &&& 63)) ||| ((f12 (f8 sx_0.toNatClampNeg).toNatClampNeg).toInt64))), none, some (.int (x_8 + 1)), some (.int sx_0), o_10, o_11, o_12, o_13, o_14] [] h z c s) : ip sc call 23 MC MS Q 50 [some (.ref r_0), some (.ref r_1), some (.int x_2), some (.int x_3), some (.int x_4), some (.int x_5), some (.long y_6), o_7, some (.int x_8), o_9, o_10, o_11, o_12, o_13, o_14] [(.int sx_0)] h z c s := by
  refine jp_store (pc2 := 52) (n := 9) rfl rfl ⟨rfl, rfl⟩ rfl (Nat.le_of_ble_eq_true rfl) ?_
  refine jp_load (pc2 := 54) (n := 6) rfl rfl rfl rfl ?_
  refine jp_con (pc2 := 55) (v := .int 4) rfl rfl rfl ?_
  refine jp_lsh (pc2 := 56) (v := y_6 <<< ((4 : Int32).toInt64 &&& 63)) rfl rfl rfl ?_
  refine jp_load (pc2 := 57) (n := 0) rfl rfl rfl rfl ?_
  refine jp_getf (pc2 := 60) rfl rfl e2 e3 ?_
  refine jp_load (pc2 := 61) (n := 1) rfl rfl rfl rfl ?_
  refine jp_getf (pc2 := 64) rfl rfl e5 e6 ?_
  refine jp_load (pc2 := 66) (n := 9) rfl rfl rfl rfl ?_
  refine jp_iald (pc2 := 67) rfl rfl e9 b10 ?_
  refine jp_iald (pc2 := 68) rfl rfl e13 b14 ?_
  refine jp_cv (pc2 := 69) (v := (.long ((f12 (f8 sx_0.toNatClampNeg).toNatClampNeg).toInt64))) rfl rfl rfl ?_
  refine jp_lbin (pc2 := 70) (v := (y_6 <<< ((4 : Int32).toInt64 &&& 63)) ||| ((f12 (f8 sx_0.toNatClampNeg).toNatClampNeg).toInt64)) rfl rfl rfl ?_
  refine jp_store2 (pc2 := 72) (n := 6) rfl rfl ⟨rfl, rfl⟩ rfl (Nat.le_of_ble_eq_true rfl) ?_
  refine jp_iinc (pc2 := 75) (n := 8) (v := x_8 + 1) rfl rfl rfl rfl k15 ?_
  refine ip_goto rfl ?_
  exact K
theorem b23_78 {r_0 : Nat} {o_1 : Option Value} {x_2 : Int32} {x_3 : Int32} {o_4 : Option Value} {x_5 : Int32} {y_6 : Int64} {o_7 : Option Value} {o_8 : Option Value} {o_9 : Option Value} {o_10 : Option Value} {o_11 : Option Value} {o_12 : Option Value} {o_13 : Option Value} {o_14 : Option Value} (k1 : ip2 o_7 = false) (k2 : ip2 none = false) (K : ip sc call 23 MC MS Q 96 [some (.ref r_0), o_1, some (.int x_2), some (.int x_3), o_4, some (.int x_5), some (.long y_6), o_7, some (.int (4 * (x_5 - 1))), some (.long y_6), none, some (.int 0), some (.int 1), o_13, o_14] [] h z c s) : ip sc call 23 MC MS Q 78 [some (.ref r_0), o_1, some (.int x_2), some (.int x_3), o_4, some (.int x_5), some (.long y_6), o_7, o_8, o_9, o_10, o_11, o_12, o_13, o_14] [] h z c s := by
  refine jp_con (pc2 := 79) (v := .int 4) rfl rfl rfl ?_
  refine jp_load (pc2 := 81) (n := 5) rfl rfl rfl rfl ?_
  refine jp_con (pc2 := 82) (v := .int 1) rfl rfl rfl ?_
  refine jp_bin (pc2 := 83) (v := x_5 - 1) rfl rfl rfl ?_
  refine jp_bin (pc2 := 84) (v := 4 * (x_5 - 1)) rfl rfl rfl ?_
  refine jp_store (pc2 := 86) (n := 8) rfl rfl ⟨rfl, rfl⟩ k1 (Nat.le_of_ble_eq_true rfl) ?_
  refine jp_load (pc2 := 88) (n := 6) rfl rfl rfl rfl ?_
  refine jp_store2 (pc2 := 90) (n := 9) rfl rfl ⟨rfl, rfl⟩ rfl (Nat.le_of_ble_eq_true rfl) ?_
  refine jp_con (pc2 := 91) (v := .int 0) rfl rfl rfl ?_
  refine jp_store (pc2 := 93) (n := 11) rfl rfl ⟨rfl, rfl⟩ k2 (Nat.le_of_ble_eq_true rfl) ?_
  refine jp_con (pc2 := 94) (v := .int 1) rfl rfl rfl ?_
  refine jp_store (pc2 := 96) (n := 12) rfl rfl ⟨rfl, rfl⟩ rfl (Nat.le_of_ble_eq_true rfl) ?_
  exact K
theorem b23_96 {r_0 : Nat} {o_1 : Option Value} {x_2 : Int32} {x_3 : Int32} {o_4 : Option Value} {x_5 : Int32} {y_6 : Int64} {o_7 : Option Value} {x_8 : Int32} {y_9 : Int64} {o_10 : Option Value} {x_11 : Int32} {x_12 : Int32} {o_13 : Option Value} {o_14 : Option Value}  (K1 : x_5 ≤ x_12 → ip sc call 23 MC MS Q 147 [some (.ref r_0), o_1, some (.int x_2), some (.int x_3), o_4, some (.int x_5), some (.long y_6), o_7, some (.int x_8), some (.long y_9), o_10, some (.int x_11), some (.int x_12), o_13, o_14] [] h z c s) (K2 : ¬ (x_5 ≤ x_12) → ip sc call 23 MC MS Q 103 [some (.ref r_0), o_1, some (.int x_2), some (.int x_3), o_4, some (.int x_5), some (.long y_6), o_7, some (.int x_8), some (.long y_9), o_10, some (.int x_11), some (.int x_12), o_13, o_14] [] h z c s) : ip sc call 23 MC MS Q 96 [some (.ref r_0), o_1, some (.int x_2), some (.int x_3), o_4, some (.int x_5), some (.long y_6), o_7, some (.int x_8), some (.long y_9), o_10, some (.int x_11), some (.int x_12), o_13, o_14] [] h z c s := by
  refine jp_load (pc2 := 98) (n := 12) rfl rfl rfl rfl ?_
  refine jp_load (pc2 := 100) (n := 5) rfl rfl rfl rfl ?_
  exact jp_icmp (pc2 := 103) rfl rfl K1 K2
theorem b23_103 {r_0 : Nat} {o_1 : Option Value} {x_2 : Int32} {x_3 : Int32} {o_4 : Option Value} {x_5 : Int32} {y_6 : Int64} {o_7 : Option Value} {x_8 : Int32} {y_9 : Int64} {o_10 : Option Value} {x_11 : Int32} {x_12 : Int32} {o_13 : Option Value} {o_14 : Option Value}  (K1 : (0 : Int32) ≤ (lg_cmp (((y_6 ^^^ (((y_6.toUInt64 >>> (x_8.toInt64.toUInt64 &&& Int64.toUInt64 63)).toInt64) <<< (x_8.toInt64 &&& 63))) <<< ((4 : Int32).toInt64 &&& 63)) ||| ((y_6.toUInt64 >>> (x_8.toInt64.toUInt64 &&& Int64.toUInt64 63)).toInt64)) y_9) → ip sc call 23 MC MS Q 141 [some (.ref r_0), o_1, some (.int x_2), some (.int x_3), o_4, some (.int x_5), some (.long (((y_6 ^^^ (((y_6.toUInt64 >>> (x_8.toInt64.toUInt64 &&& Int64.toUInt64 63)).toInt64) <<< (x_8.toInt64 &&& 63))) <<< ((4 : Int32).toInt64 &&& 63)) ||| ((y_6.toUInt64 >>> (x_8.toInt64.toUInt64 &&& Int64.toUInt64 63)).toInt64))), none, some (.int x_8), some (.long y_9), o_10, some (.int x_11), some (.int x_12), some (.long ((y_6.toUInt64 >>> (x_8.toInt64.toUInt64 &&& Int64.toUInt64 63)).toInt64)), none] [] h z c s) (K2 : ¬ ((0 : Int32) ≤ (lg_cmp (((y_6 ^^^ (((y_6.toUInt64 >>> (x_8.toInt64.toUInt64 &&& Int64.toUInt64 63)).toInt64) <<< (x_8.toInt64 &&& 63))) <<< ((4 : Int32).toInt64 &&& 63)) ||| ((y_6.toUInt64 >>> (x_8.toInt64.toUInt64 &&& Int64.toUInt64 63)).toInt64)) y_9)) → ip sc call 23 MC MS Q 133 [some (.ref r_0), o_1, some (.int x_2), some (.int x_3), o_4, some (.int x_5), some (.long (((y_6 ^^^ (((y_6.toUInt64 >>> (x_8.toInt64.toUInt64 &&& Int64.toUInt64 63)).toInt64) <<< (x_8.toInt64 &&& 63))) <<< ((4 : Int32).toInt64 &&& 63)) ||| ((y_6.toUInt64 >>> (x_8.toInt64.toUInt64 &&& Int64.toUInt64 63)).toInt64))), none, some (.int x_8), some (.long y_9), o_10, some (.int x_11), some (.int x_12), some (.long ((y_6.toUInt64 >>> (x_8.toInt64.toUInt64 &&& Int64.toUInt64 63)).toInt64)), none] [] h z c s) : ip sc call 23 MC MS Q 103 [some (.ref r_0), o_1, some (.int x_2), some (.int x_3), o_4, some (.int x_5), some (.long y_6), o_7, some (.int x_8), some (.long y_9), o_10, some (.int x_11), some (.int x_12), o_13, o_14] [] h z c s := by
  refine jp_load (pc2 := 105) (n := 6) rfl rfl rfl rfl ?_
  refine jp_load (pc2 := 107) (n := 8) rfl rfl rfl rfl ?_
  refine jp_lsh (pc2 := 108) (v := (y_6.toUInt64 >>> (x_8.toInt64.toUInt64 &&& Int64.toUInt64 63)).toInt64) rfl rfl rfl ?_
  refine jp_store2 (pc2 := 110) (n := 13) rfl rfl ⟨rfl, rfl⟩ rfl (Nat.le_of_ble_eq_true rfl) ?_
  refine jp_load (pc2 := 112) (n := 6) rfl rfl rfl rfl ?_
  refine jp_load (pc2 := 114) (n := 13) rfl rfl rfl rfl ?_
  refine jp_load (pc2 := 116) (n := 8) rfl rfl rfl rfl ?_
  refine jp_lsh (pc2 := 117) (v := ((y_6.toUInt64 >>> (x_8.toInt64.toUInt64 &&& Int64.toUInt64 63)).toInt64) <<< (x_8.toInt64 &&& 63)) rfl rfl rfl ?_
  refine jp_lbin (pc2 := 118) (v := y_6 ^^^ (((y_6.toUInt64 >>> (x_8.toInt64.toUInt64 &&& Int64.toUInt64 63)).toInt64) <<< (x_8.toInt64 &&& 63))) rfl rfl rfl ?_
  refine jp_con (pc2 := 119) (v := .int 4) rfl rfl rfl ?_
  refine jp_lsh (pc2 := 120) (v := (y_6 ^^^ (((y_6.toUInt64 >>> (x_8.toInt64.toUInt64 &&& Int64.toUInt64 63)).toInt64) <<< (x_8.toInt64 &&& 63))) <<< ((4 : Int32).toInt64 &&& 63)) rfl rfl rfl ?_
  refine jp_load (pc2 := 122) (n := 13) rfl rfl rfl rfl ?_
  refine jp_lbin (pc2 := 123) (v := ((y_6 ^^^ (((y_6.toUInt64 >>> (x_8.toInt64.toUInt64 &&& Int64.toUInt64 63)).toInt64) <<< (x_8.toInt64 &&& 63))) <<< ((4 : Int32).toInt64 &&& 63)) ||| ((y_6.toUInt64 >>> (x_8.toInt64.toUInt64 &&& Int64.toUInt64 63)).toInt64)) rfl rfl rfl ?_
  refine jp_store2 (pc2 := 125) (n := 6) rfl rfl ⟨rfl, rfl⟩ rfl (Nat.le_of_ble_eq_true rfl) ?_
  refine jp_load (pc2 := 127) (n := 6) rfl rfl rfl rfl ?_
  refine jp_load (pc2 := 129) (n := 9) rfl rfl rfl rfl ?_
  refine jp_lcmp (pc2 := 130) rfl rfl ?_
  exact jp_if0 (pc2 := 133) rfl rfl K1 K2
theorem b23_133 {r_0 : Nat} {o_1 : Option Value} {x_2 : Int32} {x_3 : Int32} {o_4 : Option Value} {x_5 : Int32} {y_6 : Int64} {o_7 : Option Value} {x_8 : Int32} {o_9 : Option Value} {o_10 : Option Value} {o_11 : Option Value} {x_12 : Int32} {o_13 : Option Value} {o_14 : Option Value} (k1 : ip2 none = false) (K : ip sc call 23 MC MS Q 141 [some (.ref r_0), o_1, some (.int x_2), some (.int x_3), o_4, some (.int x_5), some (.long y_6), o_7, some (.int x_8), some (.long y_6), none, some (.int x_12), some (.int x_12), o_13, o_14] [] h z c s) : ip sc call 23 MC MS Q 133 [some (.ref r_0), o_1, some (.int x_2), some (.int x_3), o_4, some (.int x_5), some (.long y_6), o_7, some (.int x_8), o_9, o_10, o_11, some (.int x_12), o_13, o_14] [] h z c s := by
  refine jp_load (pc2 := 135) (n := 6) rfl rfl rfl rfl ?_
  refine jp_store2 (pc2 := 137) (n := 9) rfl rfl ⟨rfl, rfl⟩ rfl (Nat.le_of_ble_eq_true rfl) ?_
  refine jp_load (pc2 := 139) (n := 12) rfl rfl rfl rfl ?_
  refine jp_store (pc2 := 141) (n := 11) rfl rfl ⟨rfl, rfl⟩ k1 (Nat.le_of_ble_eq_true rfl) ?_
  exact K
theorem b23_141 {r_0 : Nat} {o_1 : Option Value} {x_2 : Int32} {x_3 : Int32} {o_4 : Option Value} {x_5 : Int32} {y_6 : Int64} {o_7 : Option Value} {x_8 : Int32} {y_9 : Int64} {o_10 : Option Value} {x_11 : Int32} {x_12 : Int32} {o_13 : Option Value} {o_14 : Option Value}  (K : ip sc call 23 MC MS Q 96 [some (.ref r_0), o_1, some (.int x_2), some (.int x_3), o_4, some (.int x_5), some (.long y_6), o_7, some (.int x_8), some (.long y_9), o_10, some (.int x_11), some (.int (x_12 + 1)), o_13, o_14] [] h z c s) : ip sc call 23 MC MS Q 141 [some (.ref r_0), o_1, some (.int x_2), some (.int x_3), o_4, some (.int x_5), some (.long y_6), o_7, some (.int x_8), some (.long y_9), o_10, some (.int x_11), some (.int x_12), o_13, o_14] [] h z c s := by
  refine jp_iinc (pc2 := 144) (n := 12) (v := x_12 + 1) rfl rfl rfl rfl rfl ?_
  refine ip_goto rfl ?_
  exact K
theorem b23_147 {r_0 : Nat} {o_1 : Option Value} {x_2 : Int32} {x_3 : Int32} {o_4 : Option Value} {x_5 : Int32} {o_6 : Option Value} {o_7 : Option Value} {o_8 : Option Value} {y_9 : Int64} {o_10 : Option Value} {x_11 : Int32} {o_12 : Option Value} {o_13 : Option Value} {o_14 : Option Value} {fs1 : List Value} {q_fs1_4 : Nat} {n4 : Nat} {f5 : Nat → Int64} {q_fs1_5 : Nat} (e2 : h r_0 = some (.inr (3, fs1))) (e3 : fs1[4]? = some (.ref q_fs1_4)) (e6 : h q_fs1_4 = some (.inl (1, n4, .inr (.inl f5)))) (b7 : vp_in (x_3 + x_2) n4) (n8 : r_0 ≠ q_fs1_4) (e9 : fs1[5]? = some (.ref q_fs1_5)) (K1 : ¬ x_3 = 0 → ip sc call 23 MC MS Q 173 [some (.ref r_0), o_1, some (.int x_2), some (.int x_3), o_4, some (.int x_5), o_6, o_7, o_8, some (.long y_9), o_10, some (.int x_11), o_12, o_13, o_14] [(.int (x_3 + x_2)), (.ref q_fs1_5)] (hup h q_fs1_4 (.inl (1, n4, .inr (.inl (vp_updL f5 (x_3 + x_2).toNatClampNeg y_9))))) z c s) (K2 : ¬ (¬ x_3 = 0) → ip sc call 23 MC MS Q 168 [some (.ref r_0), o_1, some (.int x_2), some (.int x_3), o_4, some (.int x_5), o_6, o_7, o_8, some (.long y_9), o_10, some (.int x_11), o_12, o_13, o_14] [(.int (x_3 + x_2)), (.ref q_fs1_5)] (hup h q_fs1_4 (.inl (1, n4, .inr (.inl (vp_updL f5 (x_3 + x_2).toNatClampNeg y_9))))) z c s) : ip sc call 23 MC MS Q 147 [some (.ref r_0), o_1, some (.int x_2), some (.int x_3), o_4, some (.int x_5), o_6, o_7, o_8, some (.long y_9), o_10, some (.int x_11), o_12, o_13, o_14] [] h z c s := by
  refine jp_load (pc2 := 148) (n := 0) rfl rfl rfl rfl ?_
  refine jp_getf (pc2 := 151) rfl rfl e2 e3 ?_
  refine jp_load (pc2 := 152) (n := 3) rfl rfl rfl rfl ?_
  refine jp_load (pc2 := 153) (n := 2) rfl rfl rfl rfl ?_
  refine jp_bin (pc2 := 154) (v := x_3 + x_2) rfl rfl rfl ?_
  refine jp_load (pc2 := 156) (n := 9) rfl rfl rfl rfl ?_
  refine jp_last (pc2 := 157) rfl rfl e6 b7 ?_
  refine jp_load (pc2 := 158) (n := 0) rfl rfl rfl rfl ?_
  refine jp_getf (pc2 := 161) rfl rfl (hup_ne n8 e2) e9 ?_
  refine jp_load (pc2 := 162) (n := 3) rfl rfl rfl rfl ?_
  refine jp_load (pc2 := 163) (n := 2) rfl rfl rfl rfl ?_
  refine jp_bin (pc2 := 164) (v := x_3 + x_2) rfl rfl rfl ?_
  refine jp_load (pc2 := 165) (n := 3) rfl rfl rfl rfl ?_
  exact jp_if0 (pc2 := 168) rfl rfl K1 K2
theorem b23_168 {o_0 : Option Value} {o_1 : Option Value} {o_2 : Option Value} {o_3 : Option Value} {o_4 : Option Value} {o_5 : Option Value} {o_6 : Option Value} {o_7 : Option Value} {o_8 : Option Value} {o_9 : Option Value} {o_10 : Option Value} {x_11 : Int32} {o_12 : Option Value} {o_13 : Option Value} {o_14 : Option Value} {sr_0 : Nat} {sx_1 : Int32}  (K : ip sc call 23 MC MS Q 180 [o_0, o_1, o_2, o_3, o_4, o_5, o_6, o_7, o_8, o_9, o_10, some (.int x_11), o_12, o_13, o_14] [(.int x_11), (.int sx_1), (.ref sr_0)] h z c s) : ip sc call 23 MC MS Q 168 [o_0, o_1, o_2, o_3, o_4, o_5, o_6, o_7, o_8, o_9, o_10, some (.int x_11), o_12, o_13, o_14] [(.int sx_1), (.ref sr_0)] h z c s := by
  refine jp_load (pc2 := 170) (n := 11) rfl rfl rfl rfl ?_
  refine ip_goto rfl ?_
  exact K
theorem b23_173 {o_0 : Option Value} {o_1 : Option Value} {o_2 : Option Value} {o_3 : Option Value} {o_4 : Option Value} {x_5 : Int32} {o_6 : Option Value} {o_7 : Option Value} {o_8 : Option Value} {o_9 : Option Value} {o_10 : Option Value} {x_11 : Int32} {o_12 : Option Value} {o_13 : Option Value} {o_14 : Option Value} {sr_0 : Nat} {sx_1 : Int32}  (K : ip sc call 23 MC MS Q 180 [o_0, o_1, o_2, o_3, o_4, some (.int x_5), o_6, o_7, o_8, o_9, o_10, some (.int x_11), o_12, o_13, o_14] [(.int ((x_5 - 1) - x_11)), (.int sx_1), (.ref sr_0)] h z c s) : ip sc call 23 MC MS Q 173 [o_0, o_1, o_2, o_3, o_4, some (.int x_5), o_6, o_7, o_8, o_9, o_10, some (.int x_11), o_12, o_13, o_14] [(.int sx_1), (.ref sr_0)] h z c s := by
  refine jp_load (pc2 := 175) (n := 5) rfl rfl rfl rfl ?_
  refine jp_con (pc2 := 176) (v := .int 1) rfl rfl rfl ?_
  refine jp_bin (pc2 := 177) (v := x_5 - 1) rfl rfl rfl ?_
  refine jp_load (pc2 := 179) (n := 11) rfl rfl rfl rfl ?_
  refine jp_bin (pc2 := 180) (v := (x_5 - 1) - x_11) rfl rfl rfl ?_
  exact K
theorem b23_180 {o_0 : Option Value} {o_1 : Option Value} {o_2 : Option Value} {o_3 : Option Value} {o_4 : Option Value} {o_5 : Option Value} {o_6 : Option Value} {o_7 : Option Value} {o_8 : Option Value} {o_9 : Option Value} {o_10 : Option Value} {o_11 : Option Value} {o_12 : Option Value} {o_13 : Option Value} {o_14 : Option Value} {sr_0 : Nat} {sx_1 : Int32} {sx_2 : Int32} {n1 : Nat} {f2 : Nat → Int32} (e3 : h sr_0 = some (.inl (0, n1, .inl f2))) (b4 : vp_in sx_1 n1) (q5 : Q none (hup h sr_0 (.inl (0, n1, .inl (upd f2 sx_1.toNatClampNeg sx_2)))) z)  : ip sc call 23 MC MS Q 180 [o_0, o_1, o_2, o_3, o_4, o_5, o_6, o_7, o_8, o_9, o_10, o_11, o_12, o_13, o_14] [(.int sx_2), (.int sx_1), (.ref sr_0)] h z c s := by
  refine jp_iast (pc2 := 181) rfl rfl e3 b4 ?_
  exact ip_vret (st := []) rfl rfl q5
theorem b24_0 {r_0 : Nat} {r_1 : Nat} {o_2 : Option Value} {o_3 : Option Value} {o_4 : Option Value} {o_5 : Option Value} {fs1 : List Value} (e2 : h r_0 = some (.inr (3, fs1))) (l3 : fs1.length = 13) (K : ip sc call 24 MC MS Q 7 [some (.ref r_0), some (.ref r_1), some (.int 0), o_3, o_4, o_5] [] (hup h r_0 (.inr (3, (fs1.set 10 (.int 0))))) z c s) : ip sc call 24 MC MS Q 0 [some (.ref r_0), some (.ref r_1), o_2, o_3, o_4, o_5] [] h z c s := by
  refine jp_load (pc2 := 1) (n := 0) rfl rfl rfl rfl ?_
  refine jp_con (pc2 := 2) (v := .int 0) rfl rfl rfl ?_
  refine jp_putf (pc2 := 5) rfl rfl e2 (ln_lt l3 (by decide)) ⟨rfl, rfl⟩ ?_
  refine jp_con (pc2 := 6) (v := .int 0) rfl rfl rfl ?_
  refine jp_store (pc2 := 7) (n := 2) rfl rfl ⟨rfl, rfl⟩ rfl (Nat.le_of_ble_eq_true rfl) ?_
  exact K
theorem b24_7 {r_0 : Nat} {r_1 : Nat} {x_2 : Int32} {o_3 : Option Value} {o_4 : Option Value} {o_5 : Option Value} {fs1 : List Value} {v_fs1_9 : Int32} (e2 : h r_0 = some (.inr (3, fs1))) (e3 : fs1[9]? = some (.int v_fs1_9)) (K1 : v_fs1_9 ≤ x_2 → ip sc call 24 MC MS Q 98 [some (.ref r_0), some (.ref r_1), some (.int x_2), o_3, o_4, o_5] [] h z c s) (K2 : ¬ (v_fs1_9 ≤ x_2) → ip sc call 24 MC MS Q 15 [some (.ref r_0), some (.ref r_1), some (.int x_2), o_3, o_4, o_5] [] h z c s) : ip sc call 24 MC MS Q 7 [some (.ref r_0), some (.ref r_1), some (.int x_2), o_3, o_4, o_5] [] h z c s := by
  refine jp_load (pc2 := 8) (n := 2) rfl rfl rfl rfl ?_
  refine jp_load (pc2 := 9) (n := 0) rfl rfl rfl rfl ?_
  refine jp_getf (pc2 := 12) rfl rfl e2 e3 ?_
  exact jp_icmp (pc2 := 15) rfl rfl K1 K2
theorem b24_15 {r_0 : Nat} {r_1 : Nat} {x_2 : Int32} {o_3 : Option Value} {o_4 : Option Value} {o_5 : Option Value} {fs1 : List Value} {q_fs1_2 : Nat} {n4 : Nat} {f5 : Nat → Int32} {fs8 : List Value} {q_fs8_3 : Nat} {n11 : Nat} {f12 : Nat → Int32} (e2 : h r_0 = some (.inr (3, fs1))) (e3 : fs1[2]? = some (.ref q_fs1_2)) (e6 : h q_fs1_2 = some (.inl (0, n4, .inl f5))) (b7 : vp_in x_2 n4) (e9 : h r_1 = some (.inr (6, fs8))) (e10 : fs8[3]? = some (.ref q_fs8_3)) (e13 : h q_fs8_3 = some (.inl (0, n11, .inl f12))) (b14 : vp_in ((f5 x_2.toNatClampNeg) + 1) n11) (b15 : vp_in (f5 x_2.toNatClampNeg) n11) (K : ip sc call 24 MC MS Q 42 [some (.ref r_0), some (.ref r_1), some (.int x_2), some (.int (f5 x_2.toNatClampNeg)), some (.int ((f12 ((f5 x_2.toNatClampNeg) + 1).toNatClampNeg) - 1)), some (.int (f12 (f5 x_2.toNatClampNeg).toNatClampNeg))] [] h z c s) : ip sc call 24 MC MS Q 15 [some (.ref r_0), some (.ref r_1), some (.int x_2), o_3, o_4, o_5] [] h z c s := by
  refine jp_load (pc2 := 16) (n := 0) rfl rfl rfl rfl ?_
  refine jp_getf (pc2 := 19) rfl rfl e2 e3 ?_
  refine jp_load (pc2 := 20) (n := 2) rfl rfl rfl rfl ?_
  refine jp_iald (pc2 := 21) rfl rfl e6 b7 ?_
  refine jp_store (pc2 := 22) (n := 3) rfl rfl ⟨rfl, rfl⟩ rfl (Nat.le_of_ble_eq_true rfl) ?_
  refine jp_load (pc2 := 23) (n := 1) rfl rfl rfl rfl ?_
  refine jp_getf (pc2 := 26) rfl rfl e9 e10 ?_
  refine jp_load (pc2 := 27) (n := 3) rfl rfl rfl rfl ?_
  refine jp_con (pc2 := 28) (v := .int 1) rfl rfl rfl ?_
  refine jp_bin (pc2 := 29) (v := (f5 x_2.toNatClampNeg) + 1) rfl rfl rfl ?_
  refine jp_iald (pc2 := 30) rfl rfl e13 b14 ?_
  refine jp_con (pc2 := 31) (v := .int 1) rfl rfl rfl ?_
  refine jp_bin (pc2 := 32) (v := (f12 ((f5 x_2.toNatClampNeg) + 1).toNatClampNeg) - 1) rfl rfl rfl ?_
  refine jp_store (pc2 := 34) (n := 4) rfl rfl ⟨rfl, rfl⟩ rfl (Nat.le_of_ble_eq_true rfl) ?_
  refine jp_load (pc2 := 35) (n := 1) rfl rfl rfl rfl ?_
  refine jp_getf (pc2 := 38) rfl rfl e9 e10 ?_
  refine jp_load (pc2 := 39) (n := 3) rfl rfl rfl rfl ?_
  refine jp_iald (pc2 := 40) rfl rfl e13 b15 ?_
  refine jp_store (pc2 := 42) (n := 5) rfl rfl ⟨rfl, rfl⟩ rfl (Nat.le_of_ble_eq_true rfl) ?_
  exact K
theorem b24_42 {r_0 : Nat} {r_1 : Nat} {x_2 : Int32} {x_3 : Int32} {x_4 : Int32} {x_5 : Int32}  (K1 : x_4 < x_5 → ip sc call 24 MC MS Q 92 [some (.ref r_0), some (.ref r_1), some (.int x_2), some (.int x_3), some (.int x_4), some (.int x_5)] [] h z c s) (K2 : ¬ (x_4 < x_5) → ip sc call 24 MC MS Q 49 [some (.ref r_0), some (.ref r_1), some (.int x_2), some (.int x_3), some (.int x_4), some (.int x_5)] [] h z c s) : ip sc call 24 MC MS Q 42 [some (.ref r_0), some (.ref r_1), some (.int x_2), some (.int x_3), some (.int x_4), some (.int x_5)] [] h z c s := by
  refine jp_load (pc2 := 44) (n := 5) rfl rfl rfl rfl ?_
  refine jp_load (pc2 := 46) (n := 4) rfl rfl rfl rfl ?_
  exact jp_icmp (pc2 := 49) rfl rfl K1 K2
theorem b24_49 {r_0 : Nat} {r_1 : Nat} {x_2 : Int32} {x_3 : Int32} {x_4 : Int32} {x_5 : Int32} {fs1 : List Value} {q_fs1_3 : Nat} {q_fs1_6 : Nat} {n5 : Nat} {f6 : Nat → Int32} {n9 : Nat} {f10 : Nat → Int32} (e2 : h r_0 = some (.inr (3, fs1))) (e3 : fs1[3]? = some (.ref q_fs1_3)) (e4 : fs1[6]? = some (.ref q_fs1_6)) (e7 : h q_fs1_6 = some (.inl (0, n5, .inl f6))) (b8 : vp_in x_3 n5) (e11 : h q_fs1_3 = some (.inl (0, n9, .inl f10))) (b12 : vp_in ((f6 x_3.toNatClampNeg) + x_5) n9) (K1 : x_4 ≤ x_5 → ip sc call 24 MC MS Q 82 [some (.ref r_0), some (.ref r_1), some (.int x_2), some (.int x_3), some (.int x_4), some (.int x_5)] [(.int (f6 x_3.toNatClampNeg)), (.int (f10 ((f6 x_3.toNatClampNeg) + x_5).toNatClampNeg)), (.ref r_1), (.ref r_0)] h z c s) (K2 : ¬ (x_4 ≤ x_5) → ip sc call 24 MC MS Q 78 [some (.ref r_0), some (.ref r_1), some (.int x_2), some (.int x_3), some (.int x_4), some (.int x_5)] [(.int (f6 x_3.toNatClampNeg)), (.int (f10 ((f6 x_3.toNatClampNeg) + x_5).toNatClampNeg)), (.ref r_1), (.ref r_0)] h z c s) : ip sc call 24 MC MS Q 49 [some (.ref r_0), some (.ref r_1), some (.int x_2), some (.int x_3), some (.int x_4), some (.int x_5)] [] h z c s := by
  refine jp_load (pc2 := 50) (n := 0) rfl rfl rfl rfl ?_
  refine jp_load (pc2 := 51) (n := 1) rfl rfl rfl rfl ?_
  refine jp_load (pc2 := 52) (n := 0) rfl rfl rfl rfl ?_
  refine jp_getf (pc2 := 55) rfl rfl e2 e3 ?_
  refine jp_load (pc2 := 56) (n := 0) rfl rfl rfl rfl ?_
  refine jp_getf (pc2 := 59) rfl rfl e2 e4 ?_
  refine jp_load (pc2 := 60) (n := 3) rfl rfl rfl rfl ?_
  refine jp_iald (pc2 := 61) rfl rfl e7 b8 ?_
  refine jp_load (pc2 := 63) (n := 5) rfl rfl rfl rfl ?_
  refine jp_bin (pc2 := 64) (v := (f6 x_3.toNatClampNeg) + x_5) rfl rfl rfl ?_
  refine jp_iald (pc2 := 65) rfl rfl e11 b12 ?_
  refine jp_load (pc2 := 66) (n := 0) rfl rfl rfl rfl ?_
  refine jp_getf (pc2 := 69) rfl rfl e2 e4 ?_
  refine jp_load (pc2 := 70) (n := 3) rfl rfl rfl rfl ?_
  refine jp_iald (pc2 := 71) rfl rfl e7 b8 ?_
  refine jp_load (pc2 := 73) (n := 5) rfl rfl rfl rfl ?_
  refine jp_load (pc2 := 75) (n := 4) rfl rfl rfl rfl ?_
  exact jp_icmp (pc2 := 78) rfl rfl K1 K2
theorem b24_78 {r_0 : Nat} {r_1 : Nat} {x_2 : Int32} {x_3 : Int32} {x_4 : Int32} {x_5 : Int32} {sr_0 : Nat} {sr_1 : Nat} {sx_2 : Int32} {sx_3 : Int32}  (K : ip sc call 24 MC MS Q 83 [some (.ref r_0), some (.ref r_1), some (.int x_2), some (.int x_3), some (.int x_4), some (.int x_5)] [(.int 1), (.int sx_3), (.int sx_2), (.ref sr_1), (.ref sr_0)] h z c s) : ip sc call 24 MC MS Q 78 [some (.ref r_0), some (.ref r_1), some (.int x_2), some (.int x_3), some (.int x_4), some (.int x_5)] [(.int sx_3), (.int sx_2), (.ref sr_1), (.ref sr_0)] h z c s := by
  refine jp_con (pc2 := 79) (v := .int 1) rfl rfl rfl ?_
  refine ip_goto rfl ?_
  exact K
theorem b24_82 {r_0 : Nat} {r_1 : Nat} {x_2 : Int32} {x_3 : Int32} {x_4 : Int32} {x_5 : Int32} {sr_0 : Nat} {sr_1 : Nat} {sx_2 : Int32} {sx_3 : Int32}  (K : ip sc call 24 MC MS Q 83 [some (.ref r_0), some (.ref r_1), some (.int x_2), some (.int x_3), some (.int x_4), some (.int x_5)] [(.int 2), (.int sx_3), (.int sx_2), (.ref sr_1), (.ref sr_0)] h z c s) : ip sc call 24 MC MS Q 82 [some (.ref r_0), some (.ref r_1), some (.int x_2), some (.int x_3), some (.int x_4), some (.int x_5)] [(.int sx_3), (.int sx_2), (.ref sr_1), (.ref sr_0)] h z c s := by
  refine jp_con (pc2 := 83) (v := .int 2) rfl rfl rfl ?_
  exact K
theorem b24_83 {r_0 : Nat} {r_1 : Nat} {x_2 : Int32} {x_3 : Int32} {x_4 : Int32} {x_5 : Int32} {sr_0 : Nat} {sr_1 : Nat} {sx_2 : Int32} {sx_3 : Int32} {sx_4 : Int32} {fs1 : List Value} {P : ipQ} (e2 : h sr_0 = some (.inr (3, fs1))) (m3 : c ≤ MC) (m4 : s ≤ MS) (hc : call 25 [(.ref sr_0), (.ref sr_1), (.int sx_2), (.int sx_3), (.int sx_4)] h z 0 0 P) (K : ∀ (o : Option Value) (h2 : HP) (z2 : Nat), P o h2 z2 → ip sc call 24 MC MS Q 86 [some (.ref r_0), some (.ref r_1), some (.int x_2), some (.int x_3), some (.int x_4), some (.int x_5)] (o.toList ++ []) h2 z2 c s) : ip sc call 24 MC MS Q 83 [some (.ref r_0), some (.ref r_1), some (.int x_2), some (.int x_3), some (.int x_4), some (.int x_5)] [(.int sx_4), (.int sx_3), (.int sx_2), (.ref sr_1), (.ref sr_0)] h z c s := by
  exact jp_virt0 (pc2 := 86) (As := [(.ref sr_1), (.int sx_2), (.int sx_3), (.int sx_4)]) (rest := []) rfl rfl rfl (Nat.le_of_ble_eq_true rfl) e2 m3 m4 hc rfl K
theorem b24_86 {r_0 : Nat} {r_1 : Nat} {x_2 : Int32} {x_3 : Int32} {x_4 : Int32} {x_5 : Int32}  (K : ip sc call 24 MC MS Q 42 [some (.ref r_0), some (.ref r_1), some (.int x_2), some (.int x_3), some (.int x_4), some (.int (x_5 + 1))] [] h z c s) : ip sc call 24 MC MS Q 86 [some (.ref r_0), some (.ref r_1), some (.int x_2), some (.int x_3), some (.int x_4), some (.int x_5)] [] h z c s := by
  refine jp_iinc (pc2 := 89) (n := 5) (v := x_5 + 1) rfl rfl rfl rfl rfl ?_
  refine ip_goto rfl ?_
  exact K
theorem b24_92 {r_0 : Nat} {r_1 : Nat} {x_2 : Int32} {o_3 : Option Value} {o_4 : Option Value} {o_5 : Option Value}  (K : ip sc call 24 MC MS Q 7 [some (.ref r_0), some (.ref r_1), some (.int (x_2 + 1)), o_3, o_4, o_5] [] h z c s) : ip sc call 24 MC MS Q 92 [some (.ref r_0), some (.ref r_1), some (.int x_2), o_3, o_4, o_5] [] h z c s := by
  refine jp_iinc (pc2 := 95) (n := 2) (v := x_2 + 1) rfl rfl rfl rfl rfl ?_
  refine ip_goto rfl ?_
  exact K
theorem b24_98 {o_0 : Option Value} {o_1 : Option Value} {o_2 : Option Value} {o_3 : Option Value} {o_4 : Option Value} {o_5 : Option Value} (q1 : Q none h z)  : ip sc call 24 MC MS Q 98 [o_0, o_1, o_2, o_3, o_4, o_5] [] h z c s := by
  exact ip_vret (st := []) rfl rfl q1
theorem b25_0 {r_0 : Nat} {r_1 : Nat} {x_2 : Int32} {x_3 : Int32} {x_4 : Int32} {o_5 : Option Value} {o_6 : Option Value} {o_7 : Option Value} {o_8 : Option Value} {fs1 : List Value} {q_fs1_2 : Nat} {n4 : Nat} {f5 : Nat → Int32} {P : ipQ} (e2 : h r_1 = some (.inr (6, fs1))) (e3 : fs1[2]? = some (.ref q_fs1_2)) (e6 : h q_fs1_2 = some (.inl (0, n4, .inl f5))) (b7 : vp_in x_2 n4) (m8 : c ≤ MC) (m9 : s ≤ MS) (hc : call 41 [(.ref r_1), (.int x_2)] h z 0 0 P) (K : ∀ (o : Option Value) (h2 : HP) (z2 : Nat), P o h2 z2 → ip sc call 25 MC MS Q 13 [some (.ref r_0), some (.ref r_1), some (.int x_2), some (.int x_3), some (.int x_4), some (.int (f5 x_2.toNatClampNeg)), o_6, o_7, o_8] (o.toList ++ []) h2 z2 c s) : ip sc call 25 MC MS Q 0 [some (.ref r_0), some (.ref r_1), some (.int x_2), some (.int x_3), some (.int x_4), o_5, o_6, o_7, o_8] [] h z c s := by
  refine jp_load (pc2 := 1) (n := 1) rfl rfl rfl rfl ?_
  refine jp_getf (pc2 := 4) rfl rfl e2 e3 ?_
  refine jp_load (pc2 := 5) (n := 2) rfl rfl rfl rfl ?_
  refine jp_iald (pc2 := 6) rfl rfl e6 b7 ?_
  refine jp_store (pc2 := 8) (n := 5) rfl rfl ⟨rfl, rfl⟩ rfl (Nat.le_of_ble_eq_true rfl) ?_
  refine jp_load (pc2 := 9) (n := 1) rfl rfl rfl rfl ?_
  refine jp_load (pc2 := 10) (n := 2) rfl rfl rfl rfl ?_
  exact jp_virt0 (pc2 := 13) (As := [(.int x_2)]) (rest := []) rfl rfl rfl (Nat.le_of_ble_eq_true rfl) e2 m8 m9 hc rfl K
theorem b25_13 {r_0 : Nat} {r_1 : Nat} {x_2 : Int32} {x_3 : Int32} {x_4 : Int32} {x_5 : Int32} {o_6 : Option Value} {o_7 : Option Value} {o_8 : Option Value} {sx_0 : Int32} {fs1 : List Value} {q_fs1_5 : Nat} {n4 : Nat} {f5 : Nat → Int32} (e2 : h r_0 = some (.inr (3, fs1))) (e3 : fs1[5]? = some (.ref q_fs1_5)) (e6 : h q_fs1_5 = some (.inl (0, n4, .inl f5))) (b7 : vp_in (x_3 + x_2) n4) (K : ip sc call 25 MC MS Q 28 [some (.ref r_0), some (.ref r_1), some (.int x_2), some (.int x_3), some (.int x_4), some (.int x_5), some (.int sx_0), some (.int (f5 (x_3 + x_2).toNatClampNeg)), some (.int 0)] [] h z c s) : ip sc call 25 MC MS Q 13 [some (.ref r_0), some (.ref r_1), some (.int x_2), some (.int x_3), some (.int x_4), some (.int x_5), o_6, o_7, o_8] [(.int sx_0)] h z c s := by
  refine jp_store (pc2 := 15) (n := 6) rfl rfl ⟨rfl, rfl⟩ rfl (Nat.le_of_ble_eq_true rfl) ?_
  refine jp_load (pc2 := 16) (n := 0) rfl rfl rfl rfl ?_
  refine jp_getf (pc2 := 19) rfl rfl e2 e3 ?_
  refine jp_load (pc2 := 20) (n := 3) rfl rfl rfl rfl ?_
  refine jp_load (pc2 := 21) (n := 2) rfl rfl rfl rfl ?_
  refine jp_bin (pc2 := 22) (v := x_3 + x_2) rfl rfl rfl ?_
  refine jp_iald (pc2 := 23) rfl rfl e6 b7 ?_
  refine jp_store (pc2 := 25) (n := 7) rfl rfl ⟨rfl, rfl⟩ rfl (Nat.le_of_ble_eq_true rfl) ?_
  refine jp_con (pc2 := 26) (v := .int 0) rfl rfl rfl ?_
  refine jp_store (pc2 := 28) (n := 8) rfl rfl ⟨rfl, rfl⟩ rfl (Nat.le_of_ble_eq_true rfl) ?_
  exact K
theorem b25_28 {r_0 : Nat} {r_1 : Nat} {o_2 : Option Value} {x_3 : Int32} {x_4 : Int32} {x_5 : Int32} {x_6 : Int32} {x_7 : Int32} {x_8 : Int32}  (K1 : x_6 ≤ x_8 → ip sc call 25 MC MS Q 138 [some (.ref r_0), some (.ref r_1), o_2, some (.int x_3), some (.int x_4), some (.int x_5), some (.int x_6), some (.int x_7), some (.int x_8)] [] h z c s) (K2 : ¬ (x_6 ≤ x_8) → ip sc call 25 MC MS Q 35 [some (.ref r_0), some (.ref r_1), o_2, some (.int x_3), some (.int x_4), some (.int x_5), some (.int x_6), some (.int x_7), some (.int x_8)] [] h z c s) : ip sc call 25 MC MS Q 28 [some (.ref r_0), some (.ref r_1), o_2, some (.int x_3), some (.int x_4), some (.int x_5), some (.int x_6), some (.int x_7), some (.int x_8)] [] h z c s := by
  refine jp_load (pc2 := 30) (n := 8) rfl rfl rfl rfl ?_
  refine jp_load (pc2 := 32) (n := 6) rfl rfl rfl rfl ?_
  exact jp_icmp (pc2 := 35) rfl rfl K1 K2
theorem b25_35 {r_0 : Nat} {r_1 : Nat} {o_2 : Option Value} {x_3 : Int32} {x_4 : Int32} {x_5 : Int32} {x_6 : Int32} {x_7 : Int32} {x_8 : Int32} {fs1 : List Value} {q_fs1_7 : Nat} {v_fs1_10 : Int32} {fs5 : List Value} {q_fs5_1 : Nat} {n8 : Nat} {f9 : Nat → Int32} {n12 : Nat} {f13 : Nat → Int32} {q_fs1_8 : Nat} (e2 : h r_0 = some (.inr (3, fs1))) (e3 : fs1[7]? = some (.ref q_fs1_7)) (e4 : fs1[10]? = some (.int v_fs1_10)) (e6 : h r_1 = some (.inr (6, fs5))) (e7 : fs5[1]? = some (.ref q_fs5_1)) (e10 : h q_fs5_1 = some (.inl (0, n8, .inl f9))) (b11 : vp_in (x_5 + x_7) n8) (e14 : h q_fs1_7 = some (.inl (0, n12, .inl f13))) (b15 : vp_in v_fs1_10 n12) (n16 : r_0 ≠ q_fs1_7) (e17 : fs1[8]? = some (.ref q_fs1_8)) (K1 : (x_6 - 1) ≤ x_8 → ip sc call 25 MC MS Q 75 [some (.ref r_0), some (.ref r_1), o_2, some (.int x_3), some (.int x_4), some (.int x_5), some (.int x_6), some (.int x_7), some (.int x_8)] [(.int v_fs1_10), (.ref q_fs1_8)] (hup h q_fs1_7 (.inl (0, n12, .inl (upd f13 v_fs1_10.toNatClampNeg (f9 (x_5 + x_7).toNatClampNeg))))) z c s) (K2 : ¬ ((x_6 - 1) ≤ x_8) → ip sc call 25 MC MS Q 71 [some (.ref r_0), some (.ref r_1), o_2, some (.int x_3), some (.int x_4), some (.int x_5), some (.int x_6), some (.int x_7), some (.int x_8)] [(.int v_fs1_10), (.ref q_fs1_8)] (hup h q_fs1_7 (.inl (0, n12, .inl (upd f13 v_fs1_10.toNatClampNeg (f9 (x_5 + x_7).toNatClampNeg))))) z c s) : ip sc call 25 MC MS Q 35 [some (.ref r_0), some (.ref r_1), o_2, some (.int x_3), some (.int x_4), some (.int x_5), some (.int x_6), some (.int x_7), some (.int x_8)] [] h z c s := by
  refine jp_load (pc2 := 36) (n := 0) rfl rfl rfl rfl ?_
  refine jp_getf (pc2 := 39) rfl rfl e2 e3 ?_
  refine jp_load (pc2 := 40) (n := 0) rfl rfl rfl rfl ?_
  refine jp_getf (pc2 := 43) rfl rfl e2 e4 ?_
  refine jp_load (pc2 := 44) (n := 1) rfl rfl rfl rfl ?_
  refine jp_getf (pc2 := 47) rfl rfl e6 e7 ?_
  refine jp_load (pc2 := 49) (n := 5) rfl rfl rfl rfl ?_
  refine jp_load (pc2 := 51) (n := 7) rfl rfl rfl rfl ?_
  refine jp_bin (pc2 := 52) (v := x_5 + x_7) rfl rfl rfl ?_
  refine jp_iald (pc2 := 53) rfl rfl e10 b11 ?_
  refine jp_iast (pc2 := 54) rfl rfl e14 b15 ?_
  refine jp_load (pc2 := 55) (n := 0) rfl rfl rfl rfl ?_
  refine jp_getf (pc2 := 58) rfl rfl (hup_ne n16 e2) e17 ?_
  refine jp_load (pc2 := 59) (n := 0) rfl rfl rfl rfl ?_
  refine jp_getf (pc2 := 62) rfl rfl (hup_ne n16 e2) e4 ?_
  refine jp_load (pc2 := 64) (n := 8) rfl rfl rfl rfl ?_
  refine jp_load (pc2 := 66) (n := 6) rfl rfl rfl rfl ?_
  refine jp_con (pc2 := 67) (v := .int 1) rfl rfl rfl ?_
  refine jp_bin (pc2 := 68) (v := x_6 - 1) rfl rfl rfl ?_
  exact jp_icmp (pc2 := 71) rfl rfl K1 K2
theorem b25_71 {r_0 : Nat} {r_1 : Nat} {o_2 : Option Value} {x_3 : Int32} {x_4 : Int32} {x_5 : Int32} {x_6 : Int32} {x_7 : Int32} {x_8 : Int32} {sr_0 : Nat} {sx_1 : Int32}  (K : ip sc call 25 MC MS Q 77 [some (.ref r_0), some (.ref r_1), o_2, some (.int x_3), some (.int x_4), some (.int x_5), some (.int x_6), some (.int x_7), some (.int x_8)] [(.int 0), (.int sx_1), (.ref sr_0)] h z c s) : ip sc call 25 MC MS Q 71 [some (.ref r_0), some (.ref r_1), o_2, some (.int x_3), some (.int x_4), some (.int x_5), some (.int x_6), some (.int x_7), some (.int x_8)] [(.int sx_1), (.ref sr_0)] h z c s := by
  refine jp_con (pc2 := 72) (v := .int 0) rfl rfl rfl ?_
  refine ip_goto rfl ?_
  exact K
theorem b25_75 {r_0 : Nat} {r_1 : Nat} {o_2 : Option Value} {x_3 : Int32} {x_4 : Int32} {x_5 : Int32} {x_6 : Int32} {x_7 : Int32} {x_8 : Int32} {sr_0 : Nat} {sx_1 : Int32}  (K : ip sc call 25 MC MS Q 77 [some (.ref r_0), some (.ref r_1), o_2, some (.int x_3), some (.int x_4), some (.int x_5), some (.int x_6), some (.int x_7), some (.int x_8)] [(.int x_4), (.int sx_1), (.ref sr_0)] h z c s) : ip sc call 25 MC MS Q 75 [some (.ref r_0), some (.ref r_1), o_2, some (.int x_3), some (.int x_4), some (.int x_5), some (.int x_6), some (.int x_7), some (.int x_8)] [(.int sx_1), (.ref sr_0)] h z c s := by
  refine jp_load (pc2 := 77) (n := 4) rfl rfl rfl rfl ?_
  exact K
theorem b25_77 {r_0 : Nat} {r_1 : Nat} {o_2 : Option Value} {x_3 : Int32} {x_4 : Int32} {x_5 : Int32} {x_6 : Int32} {x_7 : Int32} {x_8 : Int32} {sr_0 : Nat} {sx_1 : Int32} {sx_2 : Int32} {n1 : Nat} {f2 : Nat → Int32} {fs5 : List Value} {v_fs5_10 : Int32} (e3 : h sr_0 = some (.inl (0, n1, .inl f2))) (b4 : vp_in sx_1 n1) (e6 : h r_0 = some (.inr (3, fs5))) (n7 : r_0 ≠ sr_0) (e8 : fs5[10]? = some (.int v_fs5_10)) (l9 : fs5.length = 13) (K1 : ¬ x_3 = 0 → ip sc call 25 MC MS Q 114 [some (.ref r_0), some (.ref r_1), o_2, some (.int x_3), some (.int x_4), some (.int x_5), some (.int x_6), some (.int x_7), some (.int x_8)] [] (hup (hup h sr_0 (.inl (0, n1, .inl (upd f2 sx_1.toNatClampNeg sx_2)))) r_0 (.inr (3, (fs5.set 10 (.int (v_fs5_10 + 1)))))) z c s) (K2 : ¬ (¬ x_3 = 0) → ip sc call 25 MC MS Q 92 [some (.ref r_0), some (.ref r_1), o_2, some (.int x_3), some (.int x_4), some (.int x_5), some (.int x_6), some (.int x_7), some (.int x_8)] [] (hup (hup h sr_0 (.inl (0, n1, .inl (upd f2 sx_1.toNatClampNeg sx_2)))) r_0 (.inr (3, (fs5.set 10 (.int (v_fs5_10 + 1)))))) z c s) : ip sc call 25 MC MS Q 77 [some (.ref r_0), some (.ref r_1), o_2, some (.int x_3), some (.int x_4), some (.int x_5), some (.int x_6), some (.int x_7), some (.int x_8)] [(.int sx_2), (.int sx_1), (.ref sr_0)] h z c s := by
  refine jp_iast (pc2 := 78) rfl rfl e3 b4 ?_
  refine jp_load (pc2 := 79) (n := 0) rfl rfl rfl rfl ?_
  refine jp_dup (pc2 := 80) rfl rfl rfl ?_
  refine jp_getf (pc2 := 83) rfl rfl (hup_ne n7 e6) e8 ?_
  refine jp_con (pc2 := 84) (v := .int 1) rfl rfl rfl ?_
  refine jp_bin (pc2 := 85) (v := v_fs5_10 + 1) rfl rfl rfl ?_
  refine jp_putf (pc2 := 88) rfl rfl (hup_ne n7 e6) (ln_lt l9 (by decide)) ⟨rfl, rfl⟩ ?_
  refine jp_load (pc2 := 89) (n := 3) rfl rfl rfl rfl ?_
  exact jp_if0 (pc2 := 92) rfl rfl K1 K2
theorem b25_92 {r_0 : Nat} {r_1 : Nat} {o_2 : Option Value} {x_3 : Int32} {x_4 : Int32} {x_5 : Int32} {x_6 : Int32} {x_7 : Int32} {x_8 : Int32}  (K1 : x_6 ≤ (x_7 + 1) → ip sc call 25 MC MS Q 108 [some (.ref r_0), some (.ref r_1), o_2, some (.int x_3), some (.int x_4), some (.int x_5), some (.int x_6), some (.int x_7), some (.int x_8)] [] h z c s) (K2 : ¬ (x_6 ≤ (x_7 + 1)) → ip sc call 25 MC MS Q 101 [some (.ref r_0), some (.ref r_1), o_2, some (.int x_3), some (.int x_4), some (.int x_5), some (.int x_6), some (.int x_7), some (.int x_8)] [] h z c s) : ip sc call 25 MC MS Q 92 [some (.ref r_0), some (.ref r_1), o_2, some (.int x_3), some (.int x_4), some (.int x_5), some (.int x_6), some (.int x_7), some (.int x_8)] [] h z c s := by
  refine jp_load (pc2 := 94) (n := 7) rfl rfl rfl rfl ?_
  refine jp_con (pc2 := 95) (v := .int 1) rfl rfl rfl ?_
  refine jp_bin (pc2 := 96) (v := x_7 + 1) rfl rfl rfl ?_
  refine jp_load (pc2 := 98) (n := 6) rfl rfl rfl rfl ?_
  exact jp_icmp (pc2 := 101) rfl rfl K1 K2
theorem b25_101 {r_0 : Nat} {r_1 : Nat} {o_2 : Option Value} {x_3 : Int32} {x_4 : Int32} {x_5 : Int32} {x_6 : Int32} {x_7 : Int32} {x_8 : Int32}  (K : ip sc call 25 MC MS Q 109 [some (.ref r_0), some (.ref r_1), o_2, some (.int x_3), some (.int x_4), some (.int x_5), some (.int x_6), some (.int x_7), some (.int x_8)] [(.int (x_7 + 1))] h z c s) : ip sc call 25 MC MS Q 101 [some (.ref r_0), some (.ref r_1), o_2, some (.int x_3), some (.int x_4), some (.int x_5), some (.int x_6), some (.int x_7), some (.int x_8)] [] h z c s := by
  refine jp_load (pc2 := 103) (n := 7) rfl rfl rfl rfl ?_
  refine jp_con (pc2 := 104) (v := .int 1) rfl rfl rfl ?_
  refine jp_bin (pc2 := 105) (v := x_7 + 1) rfl rfl rfl ?_
  refine ip_goto rfl ?_
  exact K
theorem b25_108 {r_0 : Nat} {r_1 : Nat} {o_2 : Option Value} {x_3 : Int32} {x_4 : Int32} {x_5 : Int32} {x_6 : Int32} {o_7 : Option Value} {x_8 : Int32}  (K : ip sc call 25 MC MS Q 109 [some (.ref r_0), some (.ref r_1), o_2, some (.int x_3), some (.int x_4), some (.int x_5), some (.int x_6), o_7, some (.int x_8)] [(.int 0)] h z c s) : ip sc call 25 MC MS Q 108 [some (.ref r_0), some (.ref r_1), o_2, some (.int x_3), some (.int x_4), some (.int x_5), some (.int x_6), o_7, some (.int x_8)] [] h z c s := by
  refine jp_con (pc2 := 109) (v := .int 0) rfl rfl rfl ?_
  exact K
theorem b25_109 {r_0 : Nat} {r_1 : Nat} {o_2 : Option Value} {x_3 : Int32} {x_4 : Int32} {x_5 : Int32} {x_6 : Int32} {o_7 : Option Value} {x_8 : Int32} {sx_0 : Int32}  (K : ip sc call 25 MC MS Q 132 [some (.ref r_0), some (.ref r_1), o_2, some (.int x_3), some (.int x_4), some (.int x_5), some (.int x_6), some (.int sx_0), some (.int x_8)] [] h z c s) : ip sc call 25 MC MS Q 109 [some (.ref r_0), some (.ref r_1), o_2, some (.int x_3), some (.int x_4), some (.int x_5), some (.int x_6), o_7, some (.int x_8)] [(.int sx_0)] h z c s := by
  refine jp_store (pc2 := 111) (n := 7) rfl rfl ⟨rfl, rfl⟩ rfl (Nat.le_of_ble_eq_true rfl) ?_
  refine ip_goto rfl ?_
  exact K
theorem b25_114 {r_0 : Nat} {r_1 : Nat} {o_2 : Option Value} {x_3 : Int32} {x_4 : Int32} {x_5 : Int32} {x_6 : Int32} {x_7 : Int32} {x_8 : Int32}  (K1 : x_7 ≤ 0 → ip sc call 25 MC MS Q 126 [some (.ref r_0), some (.ref r_1), o_2, some (.int x_3), some (.int x_4), some (.int x_5), some (.int x_6), some (.int x_7), some (.int x_8)] [] h z c s) (K2 : ¬ (x_7 ≤ 0) → ip sc call 25 MC MS Q 119 [some (.ref r_0), some (.ref r_1), o_2, some (.int x_3), some (.int x_4), some (.int x_5), some (.int x_6), some (.int x_7), some (.int x_8)] [] h z c s) : ip sc call 25 MC MS Q 114 [some (.ref r_0), some (.ref r_1), o_2, some (.int x_3), some (.int x_4), some (.int x_5), some (.int x_6), some (.int x_7), some (.int x_8)] [] h z c s := by
  refine jp_load (pc2 := 116) (n := 7) rfl rfl rfl rfl ?_
  exact jp_if0 (pc2 := 119) rfl rfl K1 K2
theorem b25_119 {r_0 : Nat} {r_1 : Nat} {o_2 : Option Value} {x_3 : Int32} {x_4 : Int32} {x_5 : Int32} {x_6 : Int32} {x_7 : Int32} {x_8 : Int32}  (K : ip sc call 25 MC MS Q 130 [some (.ref r_0), some (.ref r_1), o_2, some (.int x_3), some (.int x_4), some (.int x_5), some (.int x_6), some (.int x_7), some (.int x_8)] [(.int (x_7 - 1))] h z c s) : ip sc call 25 MC MS Q 119 [some (.ref r_0), some (.ref r_1), o_2, some (.int x_3), some (.int x_4), some (.int x_5), some (.int x_6), some (.int x_7), some (.int x_8)] [] h z c s := by
  refine jp_load (pc2 := 121) (n := 7) rfl rfl rfl rfl ?_
  refine jp_con (pc2 := 122) (v := .int 1) rfl rfl rfl ?_
  refine jp_bin (pc2 := 123) (v := x_7 - 1) rfl rfl rfl ?_
  refine ip_goto rfl ?_
  exact K
theorem b25_126 {r_0 : Nat} {r_1 : Nat} {o_2 : Option Value} {x_3 : Int32} {x_4 : Int32} {x_5 : Int32} {x_6 : Int32} {o_7 : Option Value} {x_8 : Int32}  (K : ip sc call 25 MC MS Q 130 [some (.ref r_0), some (.ref r_1), o_2, some (.int x_3), some (.int x_4), some (.int x_5), some (.int x_6), o_7, some (.int x_8)] [(.int (x_6 - 1))] h z c s) : ip sc call 25 MC MS Q 126 [some (.ref r_0), some (.ref r_1), o_2, some (.int x_3), some (.int x_4), some (.int x_5), some (.int x_6), o_7, some (.int x_8)] [] h z c s := by
  refine jp_load (pc2 := 128) (n := 6) rfl rfl rfl rfl ?_
  refine jp_con (pc2 := 129) (v := .int 1) rfl rfl rfl ?_
  refine jp_bin (pc2 := 130) (v := x_6 - 1) rfl rfl rfl ?_
  exact K
theorem b25_130 {r_0 : Nat} {r_1 : Nat} {o_2 : Option Value} {x_3 : Int32} {x_4 : Int32} {x_5 : Int32} {x_6 : Int32} {o_7 : Option Value} {x_8 : Int32} {sx_0 : Int32}  (K : ip sc call 25 MC MS Q 132 [some (.ref r_0), some (.ref r_1), o_2, some (.int x_3), some (.int x_4), some (.int x_5), some (.int x_6), some (.int sx_0), some (.int x_8)] [] h z c s) : ip sc call 25 MC MS Q 130 [some (.ref r_0), some (.ref r_1), o_2, some (.int x_3), some (.int x_4), some (.int x_5), some (.int x_6), o_7, some (.int x_8)] [(.int sx_0)] h z c s := by
  refine jp_store (pc2 := 132) (n := 7) rfl rfl ⟨rfl, rfl⟩ rfl (Nat.le_of_ble_eq_true rfl) ?_
  exact K
theorem b25_132 {r_0 : Nat} {r_1 : Nat} {o_2 : Option Value} {x_3 : Int32} {x_4 : Int32} {x_5 : Int32} {x_6 : Int32} {x_7 : Int32} {x_8 : Int32}  (K : ip sc call 25 MC MS Q 28 [some (.ref r_0), some (.ref r_1), o_2, some (.int x_3), some (.int x_4), some (.int x_5), some (.int x_6), some (.int x_7), some (.int (x_8 + 1))] [] h z c s) : ip sc call 25 MC MS Q 132 [some (.ref r_0), some (.ref r_1), o_2, some (.int x_3), some (.int x_4), some (.int x_5), some (.int x_6), some (.int x_7), some (.int x_8)] [] h z c s := by
  refine jp_iinc (pc2 := 135) (n := 8) (v := x_8 + 1) rfl rfl rfl rfl rfl ?_
  refine ip_goto rfl ?_
  exact K
theorem b25_138 {o_0 : Option Value} {o_1 : Option Value} {o_2 : Option Value} {o_3 : Option Value} {o_4 : Option Value} {o_5 : Option Value} {o_6 : Option Value} {o_7 : Option Value} {o_8 : Option Value} (q1 : Q none h z)  : ip sc call 25 MC MS Q 138 [o_0, o_1, o_2, o_3, o_4, o_5, o_6, o_7, o_8] [] h z c s := by
  exact ip_vret (st := []) rfl rfl q1
theorem b26_0 {r_0 : Nat} {o_1 : Option Value} {o_2 : Option Value} {o_3 : Option Value} {fs1 : List Value} (e2 : h r_0 = some (.inr (3, fs1))) (l3 : fs1.length = 13) (K : ip sc call 26 MC MS Q 12 [some (.ref r_0), some (.int 0), o_2, o_3] [] (hup (hup h r_0 (.inr (3, (fs1.set 11 (.long 0))))) r_0 (.inr (3, ((fs1.set 11 (.long 0)).set 12 (.long 0))))) z c s) : ip sc call 26 MC MS Q 0 [some (.ref r_0), o_1, o_2, o_3] [] h z c s := by
  refine jp_load (pc2 := 1) (n := 0) rfl rfl rfl rfl ?_
  refine jp_con (pc2 := 2) (v := .long 0) rfl rfl rfl ?_
  refine jp_putf (pc2 := 5) rfl rfl e2 (ln_lt l3 (by decide)) ⟨rfl, rfl⟩ ?_
  refine jp_load (pc2 := 6) (n := 0) rfl rfl rfl rfl ?_
  refine jp_con (pc2 := 7) (v := .long 0) rfl rfl rfl ?_
  refine jp_putf (pc2 := 10) rfl rfl hup_eq (ls_lt (ln_lt l3 (by decide))) ⟨rfl, rfl⟩ ?_
  refine jp_con (pc2 := 11) (v := .int 0) rfl rfl rfl ?_
  refine jp_store (pc2 := 12) (n := 1) rfl rfl ⟨rfl, rfl⟩ rfl (Nat.le_of_ble_eq_true rfl) ?_
  exact K
theorem b26_12 {r_0 : Nat} {x_1 : Int32} {o_2 : Option Value} {o_3 : Option Value} {fs1 : List Value} {v_fs1_10 : Int32} (e2 : h r_0 = some (.inr (3, fs1))) (e3 : fs1[10]? = some (.int v_fs1_10)) (K1 : v_fs1_10 ≤ x_1 → ip sc call 26 MC MS Q 90 [some (.ref r_0), some (.int x_1), o_2, o_3] [] h z c s) (K2 : ¬ (v_fs1_10 ≤ x_1) → ip sc call 26 MC MS Q 20 [some (.ref r_0), some (.int x_1), o_2, o_3] [] h z c s) : ip sc call 26 MC MS Q 12 [some (.ref r_0), some (.int x_1), o_2, o_3] [] h z c s := by
  refine jp_load (pc2 := 13) (n := 1) rfl rfl rfl rfl ?_
  refine jp_load (pc2 := 14) (n := 0) rfl rfl rfl rfl ?_
  refine jp_getf (pc2 := 17) rfl rfl e2 e3 ?_
  exact jp_icmp (pc2 := 20) rfl rfl K1 K2
theorem b26_20 {r_0 : Nat} {x_1 : Int32} {o_2 : Option Value} {o_3 : Option Value} {fs1 : List Value} {q_fs1_1 : Nat} {q_fs1_7 : Nat} {n5 : Nat} {f6 : Nat → Int32} {n9 : Nat} {f10 : Nat → Int32} {q_fs1_8 : Nat} {n14 : Nat} {f15 : Nat → Int32} (e2 : h r_0 = some (.inr (3, fs1))) (e3 : fs1[1]? = some (.ref q_fs1_1)) (e4 : fs1[7]? = some (.ref q_fs1_7)) (e7 : h q_fs1_7 = some (.inl (0, n5, .inl f6))) (b8 : vp_in x_1 n5) (e11 : h q_fs1_1 = some (.inl (0, n9, .inl f10))) (b12 : vp_in (f6 x_1.toNatClampNeg) n9) (e13 : fs1[8]? = some (.ref q_fs1_8)) (e16 : h q_fs1_8 = some (.inl (0, n14, .inl f15))) (b17 : vp_in x_1 n14) (K1 : (10 : Int32) ≤ x_1 → ip sc call 26 MC MS Q 66 [some (.ref r_0), some (.int x_1), some (.long ((((f10 (f6 x_1.toNatClampNeg).toNatClampNeg) <<< (2 &&& 31)) ||| (f15 x_1.toNatClampNeg)).toInt64)), none] [] h z c s) (K2 : ¬ ((10 : Int32) ≤ x_1) → ip sc call 26 MC MS Q 48 [some (.ref r_0), some (.int x_1), some (.long ((((f10 (f6 x_1.toNatClampNeg).toNatClampNeg) <<< (2 &&& 31)) ||| (f15 x_1.toNatClampNeg)).toInt64)), none] [] h z c s) : ip sc call 26 MC MS Q 20 [some (.ref r_0), some (.int x_1), o_2, o_3] [] h z c s := by
  refine jp_load (pc2 := 21) (n := 0) rfl rfl rfl rfl ?_
  refine jp_getf (pc2 := 24) rfl rfl e2 e3 ?_
  refine jp_load (pc2 := 25) (n := 0) rfl rfl rfl rfl ?_
  refine jp_getf (pc2 := 28) rfl rfl e2 e4 ?_
  refine jp_load (pc2 := 29) (n := 1) rfl rfl rfl rfl ?_
  refine jp_iald (pc2 := 30) rfl rfl e7 b8 ?_
  refine jp_iald (pc2 := 31) rfl rfl e11 b12 ?_
  refine jp_con (pc2 := 32) (v := .int 2) rfl rfl rfl ?_
  refine jp_bin (pc2 := 33) (v := (f10 (f6 x_1.toNatClampNeg).toNatClampNeg) <<< (2 &&& 31)) rfl rfl rfl ?_
  refine jp_load (pc2 := 34) (n := 0) rfl rfl rfl rfl ?_
  refine jp_getf (pc2 := 37) rfl rfl e2 e13 ?_
  refine jp_load (pc2 := 38) (n := 1) rfl rfl rfl rfl ?_
  refine jp_iald (pc2 := 39) rfl rfl e16 b17 ?_
  refine jp_bin (pc2 := 40) (v := ((f10 (f6 x_1.toNatClampNeg).toNatClampNeg) <<< (2 &&& 31)) ||| (f15 x_1.toNatClampNeg)) rfl rfl rfl ?_
  refine jp_cv (pc2 := 41) (v := (.long ((((f10 (f6 x_1.toNatClampNeg).toNatClampNeg) <<< (2 &&& 31)) ||| (f15 x_1.toNatClampNeg)).toInt64))) rfl rfl rfl ?_
  refine jp_store2 (pc2 := 42) (n := 2) rfl rfl ⟨rfl, rfl⟩ rfl (Nat.le_of_ble_eq_true rfl) ?_
  refine jp_load (pc2 := 43) (n := 1) rfl rfl rfl rfl ?_
  refine jp_con (pc2 := 45) (v := .int 10) rfl rfl rfl ?_
  exact jp_icmp (pc2 := 48) rfl rfl K1 K2
theorem b26_48 {r_0 : Nat} {x_1 : Int32} {y_2 : Int64} {o_3 : Option Value} {fs1 : List Value} {w_fs1_11 : Int64} (e2 : h r_0 = some (.inr (3, fs1))) (e3 : fs1[11]? = some (.long w_fs1_11)) (l4 : fs1.length = 13) (K : ip sc call 26 MC MS Q 84 [some (.ref r_0), some (.int x_1), some (.long y_2), o_3] [] (hup h r_0 (.inr (3, (fs1.set 11 (.long (w_fs1_11 ||| (y_2 <<< ((6 * x_1).toInt64 &&& 63)))))))) z c s) : ip sc call 26 MC MS Q 48 [some (.ref r_0), some (.int x_1), some (.long y_2), o_3] [] h z c s := by
  refine jp_load (pc2 := 49) (n := 0) rfl rfl rfl rfl ?_
  refine jp_dup (pc2 := 50) rfl rfl rfl ?_
  refine jp_getf (pc2 := 53) rfl rfl e2 e3 ?_
  refine jp_load (pc2 := 54) (n := 2) rfl rfl rfl rfl ?_
  refine jp_con (pc2 := 56) (v := .int 6) rfl rfl rfl ?_
  refine jp_load (pc2 := 57) (n := 1) rfl rfl rfl rfl ?_
  refine jp_bin (pc2 := 58) (v := 6 * x_1) rfl rfl rfl ?_
  refine jp_lsh (pc2 := 59) (v := y_2 <<< ((6 * x_1).toInt64 &&& 63)) rfl rfl rfl ?_
  refine jp_lbin (pc2 := 60) (v := w_fs1_11 ||| (y_2 <<< ((6 * x_1).toInt64 &&& 63))) rfl rfl rfl ?_
  refine jp_putf (pc2 := 63) rfl rfl e2 (ln_lt l4 (by decide)) ⟨rfl, rfl⟩ ?_
  refine ip_goto rfl ?_
  exact K
theorem b26_66 {r_0 : Nat} {x_1 : Int32} {y_2 : Int64} {o_3 : Option Value} {fs1 : List Value} {w_fs1_12 : Int64} (e2 : h r_0 = some (.inr (3, fs1))) (e3 : fs1[12]? = some (.long w_fs1_12)) (l4 : fs1.length = 13) (K : ip sc call 26 MC MS Q 84 [some (.ref r_0), some (.int x_1), some (.long y_2), o_3] [] (hup h r_0 (.inr (3, (fs1.set 12 (.long (w_fs1_12 ||| (y_2 <<< ((6 * (x_1 - 10)).toInt64 &&& 63)))))))) z c s) : ip sc call 26 MC MS Q 66 [some (.ref r_0), some (.int x_1), some (.long y_2), o_3] [] h z c s := by
  refine jp_load (pc2 := 67) (n := 0) rfl rfl rfl rfl ?_
  refine jp_dup (pc2 := 68) rfl rfl rfl ?_
  refine jp_getf (pc2 := 71) rfl rfl e2 e3 ?_
  refine jp_load (pc2 := 72) (n := 2) rfl rfl rfl rfl ?_
  refine jp_con (pc2 := 74) (v := .int 6) rfl rfl rfl ?_
  refine jp_load (pc2 := 75) (n := 1) rfl rfl rfl rfl ?_
  refine jp_con (pc2 := 77) (v := .int 10) rfl rfl rfl ?_
  refine jp_bin (pc2 := 78) (v := x_1 - 10) rfl rfl rfl ?_
  refine jp_bin (pc2 := 79) (v := 6 * (x_1 - 10)) rfl rfl rfl ?_
  refine jp_lsh (pc2 := 80) (v := y_2 <<< ((6 * (x_1 - 10)).toInt64 &&& 63)) rfl rfl rfl ?_
  refine jp_lbin (pc2 := 81) (v := w_fs1_12 ||| (y_2 <<< ((6 * (x_1 - 10)).toInt64 &&& 63))) rfl rfl rfl ?_
  refine jp_putf (pc2 := 84) rfl rfl e2 (ln_lt l4 (by decide)) ⟨rfl, rfl⟩ ?_
  exact K
theorem b26_84 {r_0 : Nat} {x_1 : Int32} {o_2 : Option Value} {o_3 : Option Value}  (K : ip sc call 26 MC MS Q 12 [some (.ref r_0), some (.int (x_1 + 1)), o_2, o_3] [] h z c s) : ip sc call 26 MC MS Q 84 [some (.ref r_0), some (.int x_1), o_2, o_3] [] h z c s := by
  refine jp_iinc (pc2 := 87) (n := 1) (v := x_1 + 1) rfl rfl rfl rfl rfl ?_
  refine ip_goto rfl ?_
  exact K
theorem b26_90 {o_0 : Option Value} {o_1 : Option Value} {o_2 : Option Value} {o_3 : Option Value} (q1 : Q none h z)  : ip sc call 26 MC MS Q 90 [o_0, o_1, o_2, o_3] [] h z c s := by
  exact ip_vret (st := []) rfl rfl q1
theorem b65_0g {r_0 : Nat} {o_1 : Option Value} {P : ipQ} {mc ms : Nat} (m1 : c + 1 ≤ MC) (m2 : s + 5 ≤ MS) (m3 : c + 1 + mc ≤ MC) (m4 : s + 5 + ms ≤ MS) (hc : call 29 [(.ref z)] (hup h z (.inr (5, (ipDef 5)))) (z + 1) mc ms P) (K : ∀ (o : Option Value) (h2 : HP) (z2 : Nat), P o h2 z2 → ip sc call 65 MC MS Q 12 [some (.ref r_0), o_1] (o.toList ++ [(.ref z), (.ref r_0)]) h2 z2 (c + 1 + mc) (s + 5 + ms)) : ip sc call 65 MC MS Q 0 [some (.ref r_0), o_1] [] h z c s := by
  refine jp_load (pc2 := 1) (n := 0) rfl rfl rfl rfl ?_
  refine jp_objinit (pc2 := 4) rfl rfl (Nat.le_of_ble_eq_true rfl) ?_
  refine jp_load (pc2 := 5) (n := 0) rfl rfl rfl rfl ?_
  refine jp_new (pc2 := 8) (N := 5) rfl rfl rfl m1 m2 ?_
  refine jp_dup (pc2 := 9) rfl rfl rfl ?_
  exact jp_spec (pc2 := 12) (As := []) (rest := [(.ref z), (.ref r_0)]) rfl rfl rfl (Nat.le_of_ble_eq_true rfl) m3 m4 (by decide) hc rfl K
theorem b65_12g {r_0 : Nat} {o_1 : Option Value} {sr_0 : Nat} {sr_1 : Nat} {fs1 : List Value} {fs6 : List Value} {q_fs6_0 : Nat} {P : ipQ} {mc ms : Nat} (e2 : h sr_0 = some (.inr (7, fs1))) (l3 : fs1.length = 9) (m4 : c + 1 ≤ MC) (m5 : s + 13 ≤ MS) (e7 : h r_0 = some (.inr (7, fs6))) (n8 : r_0 ≠ sr_0) (n9 : r_0 ≠ z) (e10 : fs6[0]? = some (.ref q_fs6_0)) (m11 : c + 1 + mc ≤ MC) (m12 : s + 13 + ms ≤ MS) (hc : call 14 [(.ref z), (.ref q_fs6_0)] (hup (hup h sr_0 (.inr (7, (fs1.set 0 (.ref sr_1))))) z (.inr (3, (ipDef 3)))) (z + 1) mc ms P) (K : ∀ (o : Option Value) (h2 : HP) (z2 : Nat), P o h2 z2 → ip sc call 65 MC MS Q 27 [some (.ref r_0), o_1] (o.toList ++ [(.ref z), (.ref r_0)]) h2 z2 (c + 1 + mc) (s + 13 + ms)) : ip sc call 65 MC MS Q 12 [some (.ref r_0), o_1] [(.ref sr_1), (.ref sr_0)] h z c s := by
  refine jp_putf (pc2 := 15) rfl rfl e2 (ln_lt l3 (by decide)) ⟨rfl, rfl⟩ ?_
  refine jp_load (pc2 := 16) (n := 0) rfl rfl rfl rfl ?_
  refine jp_new (pc2 := 19) (N := 13) rfl rfl rfl m4 m5 ?_
  refine jp_dup (pc2 := 20) rfl rfl rfl ?_
  refine jp_load (pc2 := 21) (n := 0) rfl rfl rfl rfl ?_
  refine jp_getf (pc2 := 24) rfl rfl (hup_ne n9 (hup_ne n8 e7)) e10 ?_
  exact jp_spec (pc2 := 27) (As := [(.ref q_fs6_0)]) (rest := [(.ref z), (.ref r_0)]) rfl rfl rfl (Nat.le_of_ble_eq_true rfl) m11 m12 (by decide) hc rfl K
theorem b65_27g {r_0 : Nat} {o_1 : Option Value} {sr_0 : Nat} {sr_1 : Nat} {fs1 : List Value} {P : ipQ} {mc ms : Nat} (e2 : h sr_0 = some (.inr (7, fs1))) (l3 : fs1.length = 9) (m4 : c + 1 ≤ MC) (m5 : s + 3 ≤ MS) (m6 : c + 1 + mc ≤ MC) (m7 : s + 3 + ms ≤ MS) (hc : call 6 [(.ref z)] (hup (hup h sr_0 (.inr (7, (fs1.set 1 (.ref sr_1))))) z (.inr (1, (ipDef 1)))) (z + 1) mc ms P) (K : ∀ (o : Option Value) (h2 : HP) (z2 : Nat), P o h2 z2 → ip sc call 65 MC MS Q 38 [some (.ref r_0), o_1] (o.toList ++ [(.ref z), (.ref r_0)]) h2 z2 (c + 1 + mc) (s + 3 + ms)) : ip sc call 65 MC MS Q 27 [some (.ref r_0), o_1] [(.ref sr_1), (.ref sr_0)] h z c s := by
  refine jp_putf (pc2 := 30) rfl rfl e2 (ln_lt l3 (by decide)) ⟨rfl, rfl⟩ ?_
  refine jp_load (pc2 := 31) (n := 0) rfl rfl rfl rfl ?_
  refine jp_new (pc2 := 34) (N := 3) rfl rfl rfl m4 m5 ?_
  refine jp_dup (pc2 := 35) rfl rfl rfl ?_
  exact jp_spec (pc2 := 38) (As := []) (rest := [(.ref z), (.ref r_0)]) rfl rfl rfl (Nat.le_of_ble_eq_true rfl) m6 m7 (by decide) hc rfl K
theorem b65_38g {r_0 : Nat} {o_1 : Option Value} {sr_0 : Nat} {sr_1 : Nat} {fs1 : List Value} {P : ipQ} {mc ms : Nat} (e2 : h sr_0 = some (.inr (7, fs1))) (l3 : fs1.length = 9) (m4 : c + 1 ≤ MC) (m5 : s + 11 ≤ MS) (m6 : c + 1 + mc ≤ MC) (m7 : s + 11 + ms ≤ MS) (hc : call 35 [(.ref z), (.int 1)] (hup (hup h sr_0 (.inr (7, (fs1.set 2 (.ref sr_1))))) z (.inr (6, (ipDef 6)))) (z + 1) mc ms P) (K : ∀ (o : Option Value) (h2 : HP) (z2 : Nat), P o h2 z2 → ip sc call 65 MC MS Q 50 [some (.ref r_0), o_1] (o.toList ++ [(.ref z), (.ref r_0)]) h2 z2 (c + 1 + mc) (s + 11 + ms)) : ip sc call 65 MC MS Q 38 [some (.ref r_0), o_1] [(.ref sr_1), (.ref sr_0)] h z c s := by
  refine jp_putf (pc2 := 41) rfl rfl e2 (ln_lt l3 (by decide)) ⟨rfl, rfl⟩ ?_
  refine jp_load (pc2 := 42) (n := 0) rfl rfl rfl rfl ?_
  refine jp_new (pc2 := 45) (N := 11) rfl rfl rfl m4 m5 ?_
  refine jp_dup (pc2 := 46) rfl rfl rfl ?_
  refine jp_con (pc2 := 47) (v := .int 1) rfl rfl rfl ?_
  exact jp_spec (pc2 := 50) (As := [(.int 1)]) (rest := [(.ref z), (.ref r_0)]) rfl rfl rfl (Nat.le_of_ble_eq_true rfl) m6 m7 (by decide) hc rfl K
theorem b65_50 {r_0 : Nat} {o_1 : Option Value} {sr_0 : Nat} {sr_1 : Nat} {fs1 : List Value} {fs6 : List Value} (e2 : h sr_0 = some (.inr (7, fs1))) (l3 : fs1.length = 9) (m4 : c + 1 ≤ MC) (m5 : s + 9 ≤ MS) (e7 : h r_0 = some (.inr (7, fs6))) (n8 : r_0 ≠ sr_0) (n9 : r_0 ≠ z) (l10 : fs6.length = 9) (m11 : c + 1 + 1 ≤ MC) (m12 : s + 9 + 9 ≤ MS) (n13 : r_0 ≠ z + 1) (m14 : c + 1 + 1 + 1 ≤ MC) (m15 : s + 9 + 9 + 50 ≤ MS) (n16 : r_0 ≠ z + 1 + 1) (m17 : c + 1 + 1 + 1 + 1 ≤ MC) (m18 : s + 9 + 9 + 50 + 50 ≤ MS) (n19 : r_0 ≠ z + 1 + 1 + 1) (m20 : c + 1 + 1 + 1 + 1 + 1 ≤ MC) (m21 : s + 9 + 9 + 50 + 50 + 16 ≤ MS) (n22 : r_0 ≠ z + 1 + 1 + 1 + 1) (K : ip sc call 65 MC MS Q 97 [some (.ref r_0), some (.int 0)] [] (hup (hup (hup (hup (hup (hup (hup (hup (hup (hup (hup h sr_0 (.inr (7, (fs1.set 3 (.ref sr_1))))) z (.inl (5, 9, .inr (.inr (.inr (.inr (fun _ => none))))))) r_0 (.inr (7, (fs6.set 4 (.ref z))))) (z + 1) (.inl (4, 9, .inr (.inr (.inr (.inr (fun _ => none))))))) r_0 (.inr (7, ((fs6.set 4 (.ref z)).set 5 (.ref (z + 1)))))) (z + 1 + 1) (.inl (1, 50, .inr (.inl (fun _ => 0))))) r_0 (.inr (7, (((fs6.set 4 (.ref z)).set 5 (.ref (z + 1))).set 6 (.ref (z + 1 + 1)))))) (z + 1 + 1 + 1) (.inl (1, 50, .inr (.inl (fun _ => 0))))) r_0 (.inr (7, ((((fs6.set 4 (.ref z)).set 5 (.ref (z + 1))).set 6 (.ref (z + 1 + 1))).set 7 (.ref (z + 1 + 1 + 1)))))) (z + 1 + 1 + 1 + 1) (.inl (0, 16, .inl (fun _ => 0)))) r_0 (.inr (7, (((((fs6.set 4 (.ref z)).set 5 (.ref (z + 1))).set 6 (.ref (z + 1 + 1))).set 7 (.ref (z + 1 + 1 + 1))).set 8 (.ref (z + 1 + 1 + 1 + 1)))))) (z + 1 + 1 + 1 + 1 + 1) (c + 1 + 1 + 1 + 1 + 1) (s + 9 + 9 + 50 + 50 + 16)) : ip sc call 65 MC MS Q 50 [some (.ref r_0), o_1] [(.ref sr_1), (.ref sr_0)] h z c s := by
  refine jp_putf (pc2 := 53) rfl rfl e2 (ln_lt l3 (by decide)) ⟨rfl, rfl⟩ ?_
  refine jp_load (pc2 := 54) (n := 0) rfl rfl rfl rfl ?_
  refine jp_con (pc2 := 56) (v := .int 9) rfl rfl rfl ?_
  refine jp_newq (pc2 := 59) (N := 9) rfl rfl (by decide) (by decide) (by decide) m4 m5 ?_
  refine jp_putf (pc2 := 62) rfl rfl (hup_ne n9 (hup_ne n8 e7)) (ln_lt l10 (by decide)) ⟨rfl, rfl⟩ ?_
  refine jp_load (pc2 := 63) (n := 0) rfl rfl rfl rfl ?_
  refine jp_con (pc2 := 65) (v := .int 9) rfl rfl rfl ?_
  refine jp_newq (pc2 := 68) (N := 9) rfl rfl (by decide) (by decide) (by decide) m11 m12 ?_
  refine jp_putf (pc2 := 71) rfl rfl (hup_ne n13 hup_eq) (ls_lt (ln_lt l10 (by decide))) ⟨rfl, rfl⟩ ?_
  refine jp_load (pc2 := 72) (n := 0) rfl rfl rfl rfl ?_
  refine jp_con (pc2 := 74) (v := .int 50) rfl rfl rfl ?_
  refine jp_newa1 (pc2 := 76) (N := 50) rfl rfl (by decide) (by decide) (by decide) m14 m15 ?_
  refine jp_putf (pc2 := 79) rfl rfl (hup_ne n16 hup_eq) (ls_lt (ls_lt (ln_lt l10 (by decide)))) ⟨rfl, rfl⟩ ?_
  refine jp_load (pc2 := 80) (n := 0) rfl rfl rfl rfl ?_
  refine jp_con (pc2 := 82) (v := .int 50) rfl rfl rfl ?_
  refine jp_newa1 (pc2 := 84) (N := 50) rfl rfl (by decide) (by decide) (by decide) m17 m18 ?_
  refine jp_putf (pc2 := 87) rfl rfl (hup_ne n19 hup_eq) (ls_lt (ls_lt (ls_lt (ln_lt l10 (by decide))))) ⟨rfl, rfl⟩ ?_
  refine jp_load (pc2 := 88) (n := 0) rfl rfl rfl rfl ?_
  refine jp_con (pc2 := 90) (v := .int 16) rfl rfl rfl ?_
  refine jp_newa0 (pc2 := 92) (N := 16) rfl rfl (by decide) (by decide) (by decide) m20 m21 ?_
  refine jp_putf (pc2 := 95) rfl rfl (hup_ne n22 hup_eq) (ls_lt (ls_lt (ls_lt (ls_lt (ln_lt l10 (by decide)))))) ⟨rfl, rfl⟩ ?_
  refine jp_con (pc2 := 96) (v := .int 0) rfl rfl rfl ?_
  refine jp_store (pc2 := 97) (n := 1) rfl rfl ⟨rfl, rfl⟩ rfl (Nat.le_of_ble_eq_true rfl) ?_
  exact K
theorem b65_97 {r_0 : Nat} {x_1 : Int32}  (K1 : (9 : Int32) ≤ x_1 → ip sc call 65 MC MS Q 136 [some (.ref r_0), some (.int x_1)] [] h z c s) (K2 : ¬ ((9 : Int32) ≤ x_1) → ip sc call 65 MC MS Q 103 [some (.ref r_0), some (.int x_1)] [] h z c s) : ip sc call 65 MC MS Q 97 [some (.ref r_0), some (.int x_1)] [] h z c s := by
  refine jp_load (pc2 := 98) (n := 1) rfl rfl rfl rfl ?_
  refine jp_con (pc2 := 100) (v := .int 9) rfl rfl rfl ?_
  exact jp_icmp (pc2 := 103) rfl rfl K1 K2
theorem b65_103g {r_0 : Nat} {x_1 : Int32} {fs1 : List Value} {q_fs1_4 : Nat} {P : ipQ} {mc ms : Nat} (e2 : h r_0 = some (.inr (7, fs1))) (e3 : fs1[4]? = some (.ref q_fs1_4)) (m4 : c + 1 ≤ MC) (m5 : s + 11 ≤ MS) (m6 : c + 1 + mc ≤ MC) (m7 : s + 11 + ms ≤ MS) (hc : call 35 [(.ref z), (.int 1)] (hup h z (.inr (6, (ipDef 6)))) (z + 1) mc ms P) (K : ∀ (o : Option Value) (h2 : HP) (z2 : Nat), P o h2 z2 → ip sc call 65 MC MS Q 116 [some (.ref r_0), some (.int x_1)] (o.toList ++ [(.ref z), (.int x_1), (.ref q_fs1_4)]) h2 z2 (c + 1 + mc) (s + 11 + ms)) : ip sc call 65 MC MS Q 103 [some (.ref r_0), some (.int x_1)] [] h z c s := by
  refine jp_load (pc2 := 104) (n := 0) rfl rfl rfl rfl ?_
  refine jp_getf (pc2 := 107) rfl rfl e2 e3 ?_
  refine jp_load (pc2 := 108) (n := 1) rfl rfl rfl rfl ?_
  refine jp_new (pc2 := 111) (N := 11) rfl rfl rfl m4 m5 ?_
  refine jp_dup (pc2 := 112) rfl rfl rfl ?_
  refine jp_con (pc2 := 113) (v := .int 1) rfl rfl rfl ?_
  exact jp_spec (pc2 := 116) (As := [(.int 1)]) (rest := [(.ref z), (.int x_1), (.ref q_fs1_4)]) rfl rfl rfl (Nat.le_of_ble_eq_true rfl) m6 m7 (by decide) hc rfl K
theorem b65_116g {r_0 : Nat} {x_1 : Int32} {sr_0 : Nat} {sx_1 : Int32} {sr_2 : Nat} {n1 : Nat} {f2 : Nat → Option Nat} {fs5 : List Value} {fs7 : List Value} {q_fs7_5 : Nat} {P : ipQ} {mc ms : Nat} (e3 : h sr_0 = some (.inl (5, n1, .inr (.inr (.inr (.inr f2)))))) (b4 : vp_in sx_1 n1) (e6 : h sr_2 = some (.inr (6, fs5))) (e8 : h r_0 = some (.inr (7, fs7))) (n9 : r_0 ≠ sr_0) (e10 : fs7[5]? = some (.ref q_fs7_5)) (m11 : c + 1 ≤ MC) (m12 : s + 6 ≤ MS) (m13 : c + 1 + mc ≤ MC) (m14 : s + 6 + ms ≤ MS) (hc : call 10 [(.ref z)] (hup (hup h sr_0 (.inl (5, n1, .inr (.inr (.inr (.inr (va_up f2 sx_1.toNatClampNeg (some sr_2)))))))) z (.inr (2, (ipDef 2)))) (z + 1) mc ms P) (K : ∀ (o : Option Value) (h2 : HP) (z2 : Nat), P o h2 z2 → ip sc call 65 MC MS Q 129 [some (.ref r_0), some (.int x_1)] (o.toList ++ [(.ref z), (.int x_1), (.ref q_fs7_5)]) h2 z2 (c + 1 + mc) (s + 6 + ms)) : ip sc call 65 MC MS Q 116 [some (.ref r_0), some (.int x_1)] [(.ref sr_2), (.int sx_1), (.ref sr_0)] h z c s := by
  refine jp_aast (pc2 := 117) rfl rfl e3 (by decide) e6 b4 ?_
  refine jp_load (pc2 := 118) (n := 0) rfl rfl rfl rfl ?_
  refine jp_getf (pc2 := 121) rfl rfl (hup_ne n9 e8) e10 ?_
  refine jp_load (pc2 := 122) (n := 1) rfl rfl rfl rfl ?_
  refine jp_new (pc2 := 125) (N := 6) rfl rfl rfl m11 m12 ?_
  refine jp_dup (pc2 := 126) rfl rfl rfl ?_
  exact jp_spec (pc2 := 129) (As := []) (rest := [(.ref z), (.int x_1), (.ref q_fs7_5)]) rfl rfl rfl (Nat.le_of_ble_eq_true rfl) m13 m14 (by decide) hc rfl K
theorem b65_129 {r_0 : Nat} {x_1 : Int32} {sr_0 : Nat} {sx_1 : Int32} {sr_2 : Nat} {n1 : Nat} {f2 : Nat → Option Nat} {fs5 : List Value} (e3 : h sr_0 = some (.inl (4, n1, .inr (.inr (.inr (.inr f2)))))) (b4 : vp_in sx_1 n1) (e6 : h sr_2 = some (.inr (2, fs5))) (K : ip sc call 65 MC MS Q 97 [some (.ref r_0), some (.int (x_1 + 1))] [] (hup h sr_0 (.inl (4, n1, .inr (.inr (.inr (.inr (va_up f2 sx_1.toNatClampNeg (some sr_2)))))))) z c s) : ip sc call 65 MC MS Q 129 [some (.ref r_0), some (.int x_1)] [(.ref sr_2), (.int sx_1), (.ref sr_0)] h z c s := by
  refine jp_aast (pc2 := 130) rfl rfl e3 (by decide) e6 b4 ?_
  refine jp_iinc (pc2 := 133) (n := 1) (v := x_1 + 1) rfl rfl rfl rfl rfl ?_
  refine ip_goto rfl ?_
  exact K
theorem b65_136 {o_0 : Option Value} {o_1 : Option Value} (q1 : Q none h z)  : ip sc call 65 MC MS Q 136 [o_0, o_1] [] h z c s := by
  exact ip_vret (st := []) rfl rfl q1
theorem b66_0 {r_0 : Nat} {r_1 : Nat} {fs1 : List Value} {q_fs1_3 : Nat} {fs4 : List Value} {P : ipQ} (e2 : h r_0 = some (.inr (7, fs1))) (e3 : fs1[3]? = some (.ref q_fs1_3)) (e5 : h q_fs1_3 = some (.inr (6, fs4))) (m6 : c ≤ MC) (m7 : s ≤ MS) (hc : call 53 [(.ref q_fs1_3), (.ref r_1)] h z 0 0 P) (K : ∀ (o : Option Value) (h2 : HP) (z2 : Nat), P o h2 z2 → ip sc call 66 MC MS Q 8 [some (.ref r_0), some (.ref r_1)] (o.toList ++ []) h2 z2 c s) : ip sc call 66 MC MS Q 0 [some (.ref r_0), some (.ref r_1)] [] h z c s := by
  refine jp_load (pc2 := 1) (n := 0) rfl rfl rfl rfl ?_
  refine jp_getf (pc2 := 4) rfl rfl e2 e3 ?_
  refine jp_load (pc2 := 5) (n := 1) rfl rfl rfl rfl ?_
  exact jp_virt0 (pc2 := 8) (As := [(.ref r_1)]) (rest := []) rfl rfl rfl (Nat.le_of_ble_eq_true rfl) e5 m6 m7 hc rfl K
theorem b66_8 {r_0 : Nat} {o_1 : Option Value} {fs1 : List Value} {P : ipQ} (e2 : h r_0 = some (.inr (7, fs1))) (m3 : c ≤ MC) (m4 : s ≤ MS) (hc : call 68 [(.ref r_0), (.int 0)] h z 0 0 P) (K : ∀ (o : Option Value) (h2 : HP) (z2 : Nat), P o h2 z2 → ip sc call 66 MC MS Q 13 [some (.ref r_0), o_1] (o.toList ++ []) h2 z2 c s) : ip sc call 66 MC MS Q 8 [some (.ref r_0), o_1] [] h z c s := by
  refine jp_load (pc2 := 9) (n := 0) rfl rfl rfl rfl ?_
  refine jp_con (pc2 := 10) (v := .int 0) rfl rfl rfl ?_
  exact jp_virt0 (pc2 := 13) (As := [(.int 0)]) (rest := []) rfl rfl rfl (Nat.le_of_ble_eq_true rfl) e2 m3 m4 hc rfl K
theorem b66_13 {o_0 : Option Value} {o_1 : Option Value} {sx_0 : Int32} (q1 : Q (some (.int sx_0)) h z)  : ip sc call 66 MC MS Q 13 [o_0, o_1] [(.int sx_0)] h z c s := by
  exact ip_iret (st := []) rfl rfl rfl q1
theorem b67_0 {r_0 : Nat} {r_1 : Nat} {r_2 : Nat} {o_3 : Option Value} {o_4 : Option Value} {o_5 : Option Value} {o_6 : Option Value} {fs1 : List Value} {P : ipQ} (e2 : h r_2 = some (.inr (2, fs1))) (m3 : c ≤ MC) (m4 : s ≤ MS) (hc : call 11 [(.ref r_2)] h z 0 0 P) (K : ∀ (o : Option Value) (h2 : HP) (z2 : Nat), P o h2 z2 → ip sc call 67 MC MS Q 6 [some (.ref r_0), some (.ref r_1), some (.ref r_2), some (.int 0), o_4, o_5, o_6] (o.toList ++ []) h2 z2 c s) : ip sc call 67 MC MS Q 0 [some (.ref r_0), some (.ref r_1), some (.ref r_2), o_3, o_4, o_5, o_6] [] h z c s := by
  refine jp_con (pc2 := 1) (v := .int 0) rfl rfl rfl ?_
  refine jp_store (pc2 := 2) (n := 3) rfl rfl ⟨rfl, rfl⟩ rfl (Nat.le_of_ble_eq_true rfl) ?_
  refine jp_load (pc2 := 3) (n := 2) rfl rfl rfl rfl ?_
  exact jp_virt0 (pc2 := 6) (As := []) (rest := []) rfl rfl rfl (Nat.le_of_ble_eq_true rfl) e2 m3 m4 hc rfl K
theorem b67_6 {r_0 : Nat} {r_1 : Nat} {r_2 : Nat} {x_3 : Int32} {o_4 : Option Value} {o_5 : Option Value} {o_6 : Option Value}  (K : ip sc call 67 MC MS Q 9 [some (.ref r_0), some (.ref r_1), some (.ref r_2), some (.int x_3), some (.int 0), o_5, o_6] [] h z c s) : ip sc call 67 MC MS Q 6 [some (.ref r_0), some (.ref r_1), some (.ref r_2), some (.int x_3), o_4, o_5, o_6] [] h z c s := by
  refine jp_con (pc2 := 7) (v := .int 0) rfl rfl rfl ?_
  refine jp_store (pc2 := 9) (n := 4) rfl rfl ⟨rfl, rfl⟩ rfl (Nat.le_of_ble_eq_true rfl) ?_
  exact K
theorem b67_9 {r_0 : Nat} {r_1 : Nat} {r_2 : Nat} {x_3 : Int32} {x_4 : Int32} {o_5 : Option Value} {o_6 : Option Value}  (K1 : (1000000 : Int32) ≤ x_4 → ip sc call 67 MC MS Q 81 [some (.ref r_0), some (.ref r_1), some (.ref r_2), some (.int x_3), some (.int x_4), o_5, o_6] [] h z c s) (K2 : ¬ ((1000000 : Int32) ≤ x_4) → ip sc call 67 MC MS Q 16 [some (.ref r_0), some (.ref r_1), some (.ref r_2), some (.int x_3), some (.int x_4), o_5, o_6] [] h z c s) : ip sc call 67 MC MS Q 9 [some (.ref r_0), some (.ref r_1), some (.ref r_2), some (.int x_3), some (.int x_4), o_5, o_6] [] h z c s := by
  refine jp_load (pc2 := 11) (n := 4) rfl rfl rfl rfl ?_
  refine jp_con (pc2 := 13) (v := .int 1000000) rfl rfl rfl ?_
  exact jp_icmp (pc2 := 16) rfl rfl K1 K2
theorem b67_16 {r_0 : Nat} {r_1 : Nat} {r_2 : Nat} {x_3 : Int32} {x_4 : Int32} {o_5 : Option Value} {o_6 : Option Value} {fs1 : List Value} {P : ipQ} (e2 : h r_1 = some (.inr (6, fs1))) (m3 : c ≤ MC) (m4 : s ≤ MS) (hc : call 46 [(.ref r_1), (.ref r_2)] h z 0 0 P) (K : ∀ (o : Option Value) (h2 : HP) (z2 : Nat), P o h2 z2 → ip sc call 67 MC MS Q 21 [some (.ref r_0), some (.ref r_1), some (.ref r_2), some (.int x_3), some (.int x_4), o_5, o_6] (o.toList ++ []) h2 z2 c s) : ip sc call 67 MC MS Q 16 [some (.ref r_0), some (.ref r_1), some (.ref r_2), some (.int x_3), some (.int x_4), o_5, o_6] [] h z c s := by
  refine jp_load (pc2 := 17) (n := 1) rfl rfl rfl rfl ?_
  refine jp_load (pc2 := 18) (n := 2) rfl rfl rfl rfl ?_
  exact jp_virt0 (pc2 := 21) (As := [(.ref r_2)]) (rest := []) rfl rfl rfl (Nat.le_of_ble_eq_true rfl) e2 m3 m4 hc rfl K
theorem b67_21 {r_0 : Nat} {r_1 : Nat} {r_2 : Nat} {x_3 : Int32} {x_4 : Int32} {o_5 : Option Value} {o_6 : Option Value} {sx_0 : Int32}  (K1 : sx_0 = 0 → ip sc call 67 MC MS Q 81 [some (.ref r_0), some (.ref r_1), some (.ref r_2), some (.int x_3), some (.int x_4), o_5, o_6] [] h z c s) (K2 : ¬ (sx_0 = 0) → ip sc call 67 MC MS Q 24 [some (.ref r_0), some (.ref r_1), some (.ref r_2), some (.int x_3), some (.int x_4), o_5, o_6] [] h z c s) : ip sc call 67 MC MS Q 21 [some (.ref r_0), some (.ref r_1), some (.ref r_2), some (.int x_3), some (.int x_4), o_5, o_6] [(.int sx_0)] h z c s := by
  exact jp_if0 (pc2 := 24) rfl rfl K1 K2
theorem b67_24 {r_0 : Nat} {r_1 : Nat} {r_2 : Nat} {x_3 : Int32} {x_4 : Int32} {o_5 : Option Value} {o_6 : Option Value} {fs1 : List Value} {P : ipQ} (e2 : h r_1 = some (.inr (6, fs1))) (m3 : c ≤ MC) (m4 : s ≤ MS) (hc : call 44 [(.ref r_1), (.ref r_2)] h z 0 0 P) (K : ∀ (o : Option Value) (h2 : HP) (z2 : Nat), P o h2 z2 → ip sc call 67 MC MS Q 29 [some (.ref r_0), some (.ref r_1), some (.ref r_2), some (.int x_3), some (.int x_4), o_5, o_6] (o.toList ++ []) h2 z2 c s) : ip sc call 67 MC MS Q 24 [some (.ref r_0), some (.ref r_1), some (.ref r_2), some (.int x_3), some (.int x_4), o_5, o_6] [] h z c s := by
  refine jp_load (pc2 := 25) (n := 1) rfl rfl rfl rfl ?_
  refine jp_load (pc2 := 26) (n := 2) rfl rfl rfl rfl ?_
  exact jp_virt0 (pc2 := 29) (As := [(.ref r_2)]) (rest := []) rfl rfl rfl (Nat.le_of_ble_eq_true rfl) e2 m3 m4 hc rfl K
theorem b67_29 {r_0 : Nat} {r_1 : Nat} {r_2 : Nat} {x_3 : Int32} {x_4 : Int32} {o_5 : Option Value} {o_6 : Option Value} {sx_0 : Int32}  (K : ip sc call 67 MC MS Q 34 [some (.ref r_0), some (.ref r_1), some (.ref r_2), some (.int x_3), some (.int x_4), some (.int sx_0), some (.int 0)] [] h z c s) : ip sc call 67 MC MS Q 29 [some (.ref r_0), some (.ref r_1), some (.ref r_2), some (.int x_3), some (.int x_4), o_5, o_6] [(.int sx_0)] h z c s := by
  refine jp_store (pc2 := 31) (n := 5) rfl rfl ⟨rfl, rfl⟩ rfl (Nat.le_of_ble_eq_true rfl) ?_
  refine jp_con (pc2 := 32) (v := .int 0) rfl rfl rfl ?_
  refine jp_store (pc2 := 34) (n := 6) rfl rfl ⟨rfl, rfl⟩ rfl (Nat.le_of_ble_eq_true rfl) ?_
  exact K
theorem b67_34 {r_0 : Nat} {r_1 : Nat} {r_2 : Nat} {x_3 : Int32} {x_4 : Int32} {x_5 : Int32} {x_6 : Int32}  (K1 : x_5 ≤ x_6 → ip sc call 67 MC MS Q 75 [some (.ref r_0), some (.ref r_1), some (.ref r_2), some (.int x_3), some (.int x_4), some (.int x_5), some (.int x_6)] [] h z c s) (K2 : ¬ (x_5 ≤ x_6) → ip sc call 67 MC MS Q 41 [some (.ref r_0), some (.ref r_1), some (.ref r_2), some (.int x_3), some (.int x_4), some (.int x_5), some (.int x_6)] [] h z c s) : ip sc call 67 MC MS Q 34 [some (.ref r_0), some (.ref r_1), some (.ref r_2), some (.int x_3), some (.int x_4), some (.int x_5), some (.int x_6)] [] h z c s := by
  refine jp_load (pc2 := 36) (n := 6) rfl rfl rfl rfl ?_
  refine jp_load (pc2 := 38) (n := 5) rfl rfl rfl rfl ?_
  exact jp_icmp (pc2 := 41) rfl rfl K1 K2
theorem b67_41 {r_0 : Nat} {r_1 : Nat} {r_2 : Nat} {x_3 : Int32} {x_4 : Int32} {x_5 : Int32} {x_6 : Int32} {fs1 : List Value} {fs4 : List Value} {q_fs4_3 : Nat} {fs8 : List Value} {P : ipQ} (e2 : h r_2 = some (.inr (2, fs1))) (l3 : fs1.length = 6) (e5 : h r_0 = some (.inr (7, fs4))) (n6 : r_0 ≠ r_2) (e7 : fs4[3]? = some (.ref q_fs4_3)) (e9 : h q_fs4_3 = some (.inr (6, fs8))) (n10 : q_fs4_3 ≠ r_2) (m11 : c ≤ MC) (m12 : s ≤ MS) (hc : call 54 [(.ref q_fs4_3), (.ref r_1), (.ref r_2)] (hup h r_2 (.inr (2, (fs1.set 5 (.int x_6))))) z 0 0 P) (K : ∀ (o : Option Value) (h2 : HP) (z2 : Nat), P o h2 z2 → ip sc call 67 MC MS Q 56 [some (.ref r_0), some (.ref r_1), some (.ref r_2), some (.int x_3), some (.int x_4), some (.int x_5), some (.int x_6)] (o.toList ++ []) h2 z2 c s) : ip sc call 67 MC MS Q 41 [some (.ref r_0), some (.ref r_1), some (.ref r_2), some (.int x_3), some (.int x_4), some (.int x_5), some (.int x_6)] [] h z c s := by
  refine jp_load (pc2 := 42) (n := 2) rfl rfl rfl rfl ?_
  refine jp_load (pc2 := 44) (n := 6) rfl rfl rfl rfl ?_
  refine jp_putf (pc2 := 47) rfl rfl e2 (ln_lt l3 (by decide)) ⟨rfl, rfl⟩ ?_
  refine jp_load (pc2 := 48) (n := 0) rfl rfl rfl rfl ?_
  refine jp_getf (pc2 := 51) rfl rfl (hup_ne n6 e5) e7 ?_
  refine jp_load (pc2 := 52) (n := 1) rfl rfl rfl rfl ?_
  refine jp_load (pc2 := 53) (n := 2) rfl rfl rfl rfl ?_
  exact jp_virt0 (pc2 := 56) (As := [(.ref r_1), (.ref r_2)]) (rest := []) rfl rfl rfl (Nat.le_of_ble_eq_true rfl) (hup_ne n10 e9) m11 m12 hc rfl K
theorem b67_56 {r_0 : Nat} {r_1 : Nat} {r_2 : Nat} {x_3 : Int32} {x_4 : Int32} {x_5 : Int32} {x_6 : Int32} {fs1 : List Value} {P : ipQ} (e2 : h r_0 = some (.inr (7, fs1))) (m3 : c ≤ MC) (m4 : s ≤ MS) (hc : call 68 [(.ref r_0), (.int 0)] h z 0 0 P) (K : ∀ (o : Option Value) (h2 : HP) (z2 : Nat), P o h2 z2 → ip sc call 67 MC MS Q 61 [some (.ref r_0), some (.ref r_1), some (.ref r_2), some (.int x_3), some (.int x_4), some (.int x_5), some (.int x_6)] (o.toList ++ []) h2 z2 c s) : ip sc call 67 MC MS Q 56 [some (.ref r_0), some (.ref r_1), some (.ref r_2), some (.int x_3), some (.int x_4), some (.int x_5), some (.int x_6)] [] h z c s := by
  refine jp_load (pc2 := 57) (n := 0) rfl rfl rfl rfl ?_
  refine jp_con (pc2 := 58) (v := .int 0) rfl rfl rfl ?_
  exact jp_virt0 (pc2 := 61) (As := [(.int 0)]) (rest := []) rfl rfl rfl (Nat.le_of_ble_eq_true rfl) e2 m3 m4 hc rfl K
theorem b67_61 {r_0 : Nat} {r_1 : Nat} {r_2 : Nat} {x_3 : Int32} {x_4 : Int32} {x_5 : Int32} {x_6 : Int32} {sx_0 : Int32}  (K1 : ¬ sx_0 = 0 → ip sc call 67 MC MS Q 66 [some (.ref r_0), some (.ref r_1), some (.ref r_2), some (.int x_3), some (.int x_4), some (.int x_5), some (.int x_6)] [] h z c s) (K2 : ¬ (¬ sx_0 = 0) → ip sc call 67 MC MS Q 64 [some (.ref r_0), some (.ref r_1), some (.ref r_2), some (.int x_3), some (.int x_4), some (.int x_5), some (.int x_6)] [] h z c s) : ip sc call 67 MC MS Q 61 [some (.ref r_0), some (.ref r_1), some (.ref r_2), some (.int x_3), some (.int x_4), some (.int x_5), some (.int x_6)] [(.int sx_0)] h z c s := by
  exact jp_if0 (pc2 := 64) rfl rfl K1 K2
theorem b67_64 {o_0 : Option Value} {o_1 : Option Value} {o_2 : Option Value} {x_3 : Int32} {o_4 : Option Value} {o_5 : Option Value} {o_6 : Option Value} (q1 : Q (some (.int x_3)) h z)  : ip sc call 67 MC MS Q 64 [o_0, o_1, o_2, some (.int x_3), o_4, o_5, o_6] [] h z c s := by
  refine jp_load (pc2 := 65) (n := 3) rfl rfl rfl rfl ?_
  exact ip_iret (st := []) rfl rfl rfl q1
theorem b67_66 {r_0 : Nat} {r_1 : Nat} {r_2 : Nat} {x_3 : Int32} {x_4 : Int32} {x_5 : Int32} {x_6 : Int32}  (K : ip sc call 67 MC MS Q 34 [some (.ref r_0), some (.ref r_1), some (.ref r_2), some (.int (x_3 + 1)), some (.int x_4), some (.int x_5), some (.int (x_6 + 1))] [] h z c s) : ip sc call 67 MC MS Q 66 [some (.ref r_0), some (.ref r_1), some (.ref r_2), some (.int x_3), some (.int x_4), some (.int x_5), some (.int x_6)] [] h z c s := by
  refine jp_iinc (pc2 := 69) (n := 3) (v := x_3 + 1) rfl rfl rfl rfl rfl ?_
  refine jp_iinc (pc2 := 72) (n := 6) (v := x_6 + 1) rfl rfl rfl rfl rfl ?_
  refine ip_goto rfl ?_
  exact K
theorem b67_75 {r_0 : Nat} {r_1 : Nat} {r_2 : Nat} {x_3 : Int32} {x_4 : Int32} {o_5 : Option Value} {o_6 : Option Value}  (K : ip sc call 67 MC MS Q 9 [some (.ref r_0), some (.ref r_1), some (.ref r_2), some (.int x_3), some (.int (x_4 + 1)), o_5, o_6] [] h z c s) : ip sc call 67 MC MS Q 75 [some (.ref r_0), some (.ref r_1), some (.ref r_2), some (.int x_3), some (.int x_4), o_5, o_6] [] h z c s := by
  refine jp_iinc (pc2 := 78) (n := 4) (v := x_4 + 1) rfl rfl rfl rfl rfl ?_
  refine ip_goto rfl ?_
  exact K
theorem b67_81 {o_0 : Option Value} {o_1 : Option Value} {o_2 : Option Value} {o_3 : Option Value} {o_4 : Option Value} {o_5 : Option Value} {o_6 : Option Value} (q1 : Q (some (.int ((-1)))) h z)  : ip sc call 67 MC MS Q 81 [o_0, o_1, o_2, o_3, o_4, o_5, o_6] [] h z c s := by
  refine jp_con (pc2 := 82) (v := .int (-1)) rfl rfl rfl ?_
  exact ip_iret (st := []) rfl rfl rfl q1
theorem b68_0 {r_0 : Nat} {x_1 : Int32} {o_2 : Option Value} {o_3 : Option Value} {o_4 : Option Value} {o_5 : Option Value} {o_6 : Option Value} {fs1 : List Value} {q_fs1_0 : Nat} {q_fs1_3 : Nat} {fs5 : List Value} {P : ipQ} (e2 : h r_0 = some (.inr (7, fs1))) (e3 : fs1[0]? = some (.ref q_fs1_0)) (e4 : fs1[3]? = some (.ref q_fs1_3)) (e6 : h q_fs1_0 = some (.inr (5, fs5))) (m7 : c ≤ MC) (m8 : s ≤ MS) (hc : call 30 [(.ref q_fs1_0), (.ref q_fs1_3)] h z 0 0 P) (K : ∀ (o : Option Value) (h2 : HP) (z2 : Nat), P o h2 z2 → ip sc call 68 MC MS Q 20 [some (.ref r_0), some (.int x_1), some (.int 0), some (.int (x_1 * 5)), some (.int (x_1 * 5)), o_5, o_6] (o.toList ++ []) h2 z2 c s) : ip sc call 68 MC MS Q 0 [some (.ref r_0), some (.int x_1), o_2, o_3, o_4, o_5, o_6] [] h z c s := by
  refine jp_con (pc2 := 1) (v := .int 0) rfl rfl rfl ?_
  refine jp_store (pc2 := 2) (n := 2) rfl rfl ⟨rfl, rfl⟩ rfl (Nat.le_of_ble_eq_true rfl) ?_
  refine jp_load (pc2 := 3) (n := 1) rfl rfl rfl rfl ?_
  refine jp_con (pc2 := 4) (v := .int 5) rfl rfl rfl ?_
  refine jp_bin (pc2 := 5) (v := x_1 * 5) rfl rfl rfl ?_
  refine jp_store (pc2 := 6) (n := 3) rfl rfl ⟨rfl, rfl⟩ rfl (Nat.le_of_ble_eq_true rfl) ?_
  refine jp_load (pc2 := 7) (n := 3) rfl rfl rfl rfl ?_
  refine jp_store (pc2 := 9) (n := 4) rfl rfl ⟨rfl, rfl⟩ rfl (Nat.le_of_ble_eq_true rfl) ?_
  refine jp_load (pc2 := 10) (n := 0) rfl rfl rfl rfl ?_
  refine jp_getf (pc2 := 13) rfl rfl e2 e3 ?_
  refine jp_load (pc2 := 14) (n := 0) rfl rfl rfl rfl ?_
  refine jp_getf (pc2 := 17) rfl rfl e2 e4 ?_
  exact jp_virt0 (pc2 := 20) (As := [(.ref q_fs1_3)]) (rest := []) rfl rfl rfl (Nat.le_of_ble_eq_true rfl) e6 m7 m8 hc rfl K
theorem b68_20 {r_0 : Nat} {x_1 : Int32} {x_2 : Int32} {x_3 : Int32} {x_4 : Int32} {o_5 : Option Value} {o_6 : Option Value}  (K : ip sc call 68 MC MS Q 23 [some (.ref r_0), some (.int x_1), some (.int x_2), some (.int x_3), some (.int x_4), some (.int 0), o_6] [] h z c s) : ip sc call 68 MC MS Q 20 [some (.ref r_0), some (.int x_1), some (.int x_2), some (.int x_3), some (.int x_4), o_5, o_6] [] h z c s := by
  refine jp_con (pc2 := 21) (v := .int 0) rfl rfl rfl ?_
  refine jp_store (pc2 := 23) (n := 5) rfl rfl ⟨rfl, rfl⟩ rfl (Nat.le_of_ble_eq_true rfl) ?_
  exact K
theorem b68_23 {r_0 : Nat} {x_1 : Int32} {x_2 : Int32} {x_3 : Int32} {x_4 : Int32} {x_5 : Int32} {o_6 : Option Value}  (K1 : (5 : Int32) ≤ x_5 → ip sc call 68 MC MS Q 127 [some (.ref r_0), some (.int x_1), some (.int x_2), some (.int x_3), some (.int x_4), some (.int x_5), o_6] [] h z c s) (K2 : ¬ ((5 : Int32) ≤ x_5) → ip sc call 68 MC MS Q 29 [some (.ref r_0), some (.int x_1), some (.int x_2), some (.int x_3), some (.int x_4), some (.int x_5), o_6] [] h z c s) : ip sc call 68 MC MS Q 23 [some (.ref r_0), some (.int x_1), some (.int x_2), some (.int x_3), some (.int x_4), some (.int x_5), o_6] [] h z c s := by
  refine jp_load (pc2 := 25) (n := 5) rfl rfl rfl rfl ?_
  refine jp_con (pc2 := 26) (v := .int 5) rfl rfl rfl ?_
  exact jp_icmp (pc2 := 29) rfl rfl K1 K2
theorem b68_29 {r_0 : Nat} {x_1 : Int32} {x_2 : Int32} {x_3 : Int32} {x_4 : Int32} {x_5 : Int32} {o_6 : Option Value} {fs1 : List Value} {q_fs1_0 : Nat} {q_fs1_3 : Nat} {fs5 : List Value} {v_fs5_7 : Int32} {fs8 : List Value} {P : ipQ} (e2 : h r_0 = some (.inr (7, fs1))) (e3 : fs1[0]? = some (.ref q_fs1_0)) (e4 : fs1[3]? = some (.ref q_fs1_3)) (e6 : h q_fs1_3 = some (.inr (6, fs5))) (e7 : fs5[7]? = some (.int v_fs5_7)) (e9 : h q_fs1_0 = some (.inr (5, fs8))) (m10 : c ≤ MC) (m11 : s ≤ MS) (hc : call 33 [(.ref q_fs1_0), (.int v_fs5_7)] h z 0 0 P) (K : ∀ (o : Option Value) (h2 : HP) (z2 : Nat), P o h2 z2 → ip sc call 68 MC MS Q 43 [some (.ref r_0), some (.int x_1), some (.int x_2), some (.int x_3), some (.int x_4), some (.int x_5), o_6] (o.toList ++ []) h2 z2 c s) : ip sc call 68 MC MS Q 29 [some (.ref r_0), some (.int x_1), some (.int x_2), some (.int x_3), some (.int x_4), some (.int x_5), o_6] [] h z c s := by
  refine jp_load (pc2 := 30) (n := 0) rfl rfl rfl rfl ?_
  refine jp_getf (pc2 := 33) rfl rfl e2 e3 ?_
  refine jp_load (pc2 := 34) (n := 0) rfl rfl rfl rfl ?_
  refine jp_getf (pc2 := 37) rfl rfl e2 e4 ?_
  refine jp_getf (pc2 := 40) rfl rfl e6 e7 ?_
  exact jp_virt0 (pc2 := 43) (As := [(.int v_fs5_7)]) (rest := []) rfl rfl rfl (Nat.le_of_ble_eq_true rfl) e9 m10 m11 hc rfl K
theorem b68_43 {r_0 : Nat} {x_1 : Int32} {x_2 : Int32} {x_3 : Int32} {x_4 : Int32} {x_5 : Int32} {o_6 : Option Value} {sx_0 : Int32}  (K1 : ¬ sx_0 = 0 → ip sc call 68 MC MS Q 53 [some (.ref r_0), some (.int x_1), some (.int x_2), some (.int x_3), some (.int x_4), some (.int x_5), some (.int sx_0)] [] h z c s) (K2 : ¬ (¬ sx_0 = 0) → ip sc call 68 MC MS Q 50 [some (.ref r_0), some (.int x_1), some (.int x_2), some (.int x_3), some (.int x_4), some (.int x_5), some (.int sx_0)] [] h z c s) : ip sc call 68 MC MS Q 43 [some (.ref r_0), some (.int x_1), some (.int x_2), some (.int x_3), some (.int x_4), some (.int x_5), o_6] [(.int sx_0)] h z c s := by
  refine jp_store (pc2 := 45) (n := 6) rfl rfl ⟨rfl, rfl⟩ rfl (Nat.le_of_ble_eq_true rfl) ?_
  refine jp_load (pc2 := 47) (n := 6) rfl rfl rfl rfl ?_
  exact jp_if0 (pc2 := 50) rfl rfl K1 K2
theorem b68_50 {r_0 : Nat} {x_1 : Int32} {x_2 : Int32} {x_3 : Int32} {x_4 : Int32} {o_5 : Option Value} {o_6 : Option Value}  (K : ip sc call 68 MC MS Q 127 [some (.ref r_0), some (.int x_1), some (.int x_2), some (.int x_3), some (.int x_4), o_5, o_6] [] h z c s) : ip sc call 68 MC MS Q 50 [some (.ref r_0), some (.int x_1), some (.int x_2), some (.int x_3), some (.int x_4), o_5, o_6] [] h z c s := by
  refine ip_goto rfl ?_
  exact K
theorem b68_53 {r_0 : Nat} {x_1 : Int32} {x_2 : Int32} {x_3 : Int32} {x_4 : Int32} {x_5 : Int32} {x_6 : Int32} {fs1 : List Value} {q_fs1_0 : Nat} {q_fs1_3 : Nat} {fs5 : List Value} {P : ipQ} (e2 : h r_0 = some (.inr (7, fs1))) (e3 : fs1[0]? = some (.ref q_fs1_0)) (e4 : fs1[3]? = some (.ref q_fs1_3)) (e6 : h q_fs1_0 = some (.inr (5, fs5))) (m7 : c ≤ MC) (m8 : s ≤ MS) (hc : call 34 [(.ref q_fs1_0), (.int x_6), (.ref q_fs1_3)] h z 0 0 P) (K : ∀ (o : Option Value) (h2 : HP) (z2 : Nat), P o h2 z2 → ip sc call 68 MC MS Q 66 [some (.ref r_0), some (.int x_1), some (.int x_2), some (.int x_3), some (.int x_4), some (.int x_5), some (.int x_6)] (o.toList ++ []) h2 z2 c s) : ip sc call 68 MC MS Q 53 [some (.ref r_0), some (.int x_1), some (.int x_2), some (.int x_3), some (.int x_4), some (.int x_5), some (.int x_6)] [] h z c s := by
  refine jp_load (pc2 := 54) (n := 0) rfl rfl rfl rfl ?_
  refine jp_getf (pc2 := 57) rfl rfl e2 e3 ?_
  refine jp_load (pc2 := 59) (n := 6) rfl rfl rfl rfl ?_
  refine jp_load (pc2 := 60) (n := 0) rfl rfl rfl rfl ?_
  refine jp_getf (pc2 := 63) rfl rfl e2 e4 ?_
  exact jp_virt0 (pc2 := 66) (As := [(.int x_6), (.ref q_fs1_3)]) (rest := []) rfl rfl rfl (Nat.le_of_ble_eq_true rfl) e6 m7 m8 hc rfl K
theorem b68_66 {r_0 : Nat} {x_1 : Int32} {x_2 : Int32} {x_3 : Int32} {x_4 : Int32} {x_5 : Int32} {x_6 : Int32} {sx_0 : Int32}  (K1 : ¬ sx_0 = 2 → ip sc call 68 MC MS Q 77 [some (.ref r_0), some (.int x_1), some (.int x_2), some (.int x_3), some (.int x_4), some (.int x_5), some (.int x_6)] [] h z c s) (K2 : ¬ (¬ sx_0 = 2) → ip sc call 68 MC MS Q 70 [some (.ref r_0), some (.int x_1), some (.int x_2), some (.int x_3), some (.int x_4), some (.int x_5), some (.int x_6)] [] h z c s) : ip sc call 68 MC MS Q 66 [some (.ref r_0), some (.int x_1), some (.int x_2), some (.int x_3), some (.int x_4), some (.int x_5), some (.int x_6)] [(.int sx_0)] h z c s := by
  refine jp_con (pc2 := 67) (v := .int 2) rfl rfl rfl ?_
  exact jp_icmp (pc2 := 70) rfl rfl K1 K2
theorem b68_70 {r_0 : Nat} {x_1 : Int32} {x_2 : Int32} {x_3 : Int32} {x_4 : Int32} {x_5 : Int32} {o_6 : Option Value}  (K : ip sc call 68 MC MS Q 121 [some (.ref r_0), some (.int x_1), some (.int (x_2 ^^^ 1)), some (.int x_3), some (.int x_4), some (.int x_5), o_6] [] h z c s) : ip sc call 68 MC MS Q 70 [some (.ref r_0), some (.int x_1), some (.int x_2), some (.int x_3), some (.int x_4), some (.int x_5), o_6] [] h z c s := by
  refine jp_load (pc2 := 71) (n := 2) rfl rfl rfl rfl ?_
  refine jp_con (pc2 := 72) (v := .int 1) rfl rfl rfl ?_
  refine jp_bin (pc2 := 73) (v := x_2 ^^^ 1) rfl rfl rfl ?_
  refine jp_store (pc2 := 74) (n := 2) rfl rfl ⟨rfl, rfl⟩ rfl (Nat.le_of_ble_eq_true rfl) ?_
  refine ip_goto rfl ?_
  exact K
theorem b68_77 {r_0 : Nat} {x_1 : Int32} {x_2 : Int32} {x_3 : Int32} {x_4 : Int32} {x_5 : Int32} {x_6 : Int32} {fs1 : List Value} {q_fs1_1 : Nat} {q_fs1_3 : Nat} {fs5 : List Value} {P : ipQ} (e2 : h r_0 = some (.inr (7, fs1))) (e3 : fs1[1]? = some (.ref q_fs1_1)) (e4 : fs1[3]? = some (.ref q_fs1_3)) (e6 : h q_fs1_1 = some (.inr (3, fs5))) (m7 : c ≤ MC) (m8 : s ≤ MS) (hc : call 15 [(.ref q_fs1_1), (.ref q_fs1_3), (.int x_6)] h z 0 0 P) (K : ∀ (o : Option Value) (h2 : HP) (z2 : Nat), P o h2 z2 → ip sc call 68 MC MS Q 90 [some (.ref r_0), some (.int x_1), some (.int x_2), some (.int x_3), some (.int x_4), some (.int x_5), some (.int x_6)] (o.toList ++ []) h2 z2 c s) : ip sc call 68 MC MS Q 77 [some (.ref r_0), some (.int x_1), some (.int x_2), some (.int x_3), some (.int x_4), some (.int x_5), some (.int x_6)] [] h z c s := by
  refine jp_load (pc2 := 78) (n := 0) rfl rfl rfl rfl ?_
  refine jp_getf (pc2 := 81) rfl rfl e2 e3 ?_
  refine jp_load (pc2 := 82) (n := 0) rfl rfl rfl rfl ?_
  refine jp_getf (pc2 := 85) rfl rfl e2 e4 ?_
  refine jp_load (pc2 := 87) (n := 6) rfl rfl rfl rfl ?_
  exact jp_virt0 (pc2 := 90) (As := [(.ref q_fs1_3), (.int x_6)]) (rest := []) rfl rfl rfl (Nat.le_of_ble_eq_true rfl) e6 m7 m8 hc rfl K
theorem b68_90 {r_0 : Nat} {x_1 : Int32} {x_2 : Int32} {x_3 : Int32} {x_4 : Int32} {x_5 : Int32} {o_6 : Option Value} {fs1 : List Value} {q_fs1_6 : Nat} {q_fs1_1 : Nat} {fs5 : List Value} {w_fs5_11 : Int64} {n8 : Nat} {f9 : Nat → Int64} {q_fs1_7 : Nat} {w_fs5_12 : Int64} {n16 : Nat} {f17 : Nat → Int64} (e2 : h r_0 = some (.inr (7, fs1))) (e3 : fs1[6]? = some (.ref q_fs1_6)) (e4 : fs1[1]? = some (.ref q_fs1_1)) (e6 : h q_fs1_1 = some (.inr (3, fs5))) (e7 : fs5[11]? = some (.long w_fs5_11)) (e10 : h q_fs1_6 = some (.inl (1, n8, .inr (.inl f9)))) (b11 : vp_in x_4 n8) (n12 : r_0 ≠ q_fs1_6) (e13 : fs1[7]? = some (.ref q_fs1_7)) (n14 : q_fs1_1 ≠ q_fs1_6) (e15 : fs5[12]? = some (.long w_fs5_12)) (e18 : h q_fs1_7 = some (.inl (1, n16, .inr (.inl f17)))) (n19 : q_fs1_7 ≠ q_fs1_6) (b20 : vp_in x_4 n16) (K : ip sc call 68 MC MS Q 121 [some (.ref r_0), some (.int x_1), some (.int x_2), some (.int x_3), some (.int (x_4 + 1)), some (.int x_5), o_6] [] (hup (hup h q_fs1_6 (.inl (1, n8, .inr (.inl (vp_updL f9 x_4.toNatClampNeg w_fs5_11))))) q_fs1_7 (.inl (1, n16, .inr (.inl (vp_updL f17 x_4.toNatClampNeg w_fs5_12))))) z c s) : ip sc call 68 MC MS Q 90 [some (.ref r_0), some (.int x_1), some (.int x_2), some (.int x_3), some (.int x_4), some (.int x_5), o_6] [] h z c s := by
  refine jp_load (pc2 := 91) (n := 0) rfl rfl rfl rfl ?_
  refine jp_getf (pc2 := 94) rfl rfl e2 e3 ?_
  refine jp_load (pc2 := 96) (n := 4) rfl rfl rfl rfl ?_
  refine jp_load (pc2 := 97) (n := 0) rfl rfl rfl rfl ?_
  refine jp_getf (pc2 := 100) rfl rfl e2 e4 ?_
  refine jp_getf (pc2 := 103) rfl rfl e6 e7 ?_
  refine jp_last (pc2 := 104) rfl rfl e10 b11 ?_
  refine jp_load (pc2 := 105) (n := 0) rfl rfl rfl rfl ?_
  refine jp_getf (pc2 := 108) rfl rfl (hup_ne n12 e2) e13 ?_
  refine jp_load (pc2 := 110) (n := 4) rfl rfl rfl rfl ?_
  refine jp_load (pc2 := 111) (n := 0) rfl rfl rfl rfl ?_
  refine jp_getf (pc2 := 114) rfl rfl (hup_ne n12 e2) e4 ?_
  refine jp_getf (pc2 := 117) rfl rfl (hup_ne n14 e6) e15 ?_
  refine jp_last (pc2 := 118) rfl rfl (hup_ne n19 e18) b20 ?_
  refine jp_iinc (pc2 := 121) (n := 4) (v := x_4 + 1) rfl rfl rfl rfl rfl ?_
  exact K
theorem b68_121 {r_0 : Nat} {x_1 : Int32} {x_2 : Int32} {x_3 : Int32} {x_4 : Int32} {x_5 : Int32} {o_6 : Option Value}  (K : ip sc call 68 MC MS Q 23 [some (.ref r_0), some (.int x_1), some (.int x_2), some (.int x_3), some (.int x_4), some (.int (x_5 + 1)), o_6] [] h z c s) : ip sc call 68 MC MS Q 121 [some (.ref r_0), some (.int x_1), some (.int x_2), some (.int x_3), some (.int x_4), some (.int x_5), o_6] [] h z c s := by
  refine jp_iinc (pc2 := 124) (n := 5) (v := x_5 + 1) rfl rfl rfl rfl rfl ?_
  refine ip_goto rfl ?_
  exact K
theorem b68_127 {r_0 : Nat} {x_1 : Int32} {x_2 : Int32} {x_3 : Int32} {x_4 : Int32} {o_5 : Option Value} {o_6 : Option Value}  (K : ip sc call 68 MC MS Q 130 [some (.ref r_0), some (.int x_1), some (.int x_2), some (.int x_3), some (.int x_4), some (.int x_3), o_6] [] h z c s) : ip sc call 68 MC MS Q 127 [some (.ref r_0), some (.int x_1), some (.int x_2), some (.int x_3), some (.int x_4), o_5, o_6] [] h z c s := by
  refine jp_load (pc2 := 128) (n := 3) rfl rfl rfl rfl ?_
  refine jp_store (pc2 := 130) (n := 5) rfl rfl ⟨rfl, rfl⟩ rfl (Nat.le_of_ble_eq_true rfl) ?_
  exact K
theorem b68_130 {r_0 : Nat} {x_1 : Int32} {x_2 : Int32} {o_3 : Option Value} {x_4 : Int32} {x_5 : Int32} {o_6 : Option Value}  (K1 : x_4 ≤ x_5 → ip sc call 68 MC MS Q 165 [some (.ref r_0), some (.int x_1), some (.int x_2), o_3, some (.int x_4), some (.int x_5), o_6] [] h z c s) (K2 : ¬ (x_4 ≤ x_5) → ip sc call 68 MC MS Q 137 [some (.ref r_0), some (.int x_1), some (.int x_2), o_3, some (.int x_4), some (.int x_5), o_6] [] h z c s) : ip sc call 68 MC MS Q 130 [some (.ref r_0), some (.int x_1), some (.int x_2), o_3, some (.int x_4), some (.int x_5), o_6] [] h z c s := by
  refine jp_load (pc2 := 132) (n := 5) rfl rfl rfl rfl ?_
  refine jp_load (pc2 := 134) (n := 4) rfl rfl rfl rfl ?_
  exact jp_icmp (pc2 := 137) rfl rfl K1 K2
theorem b68_137 {r_0 : Nat} {x_1 : Int32} {x_2 : Int32} {o_3 : Option Value} {x_4 : Int32} {x_5 : Int32} {o_6 : Option Value} {fs1 : List Value} {q_fs1_6 : Nat} {n4 : Nat} {f5 : Nat → Int64} {q_fs1_7 : Nat} {n9 : Nat} {f10 : Nat → Int64} {P : ipQ} (e2 : h r_0 = some (.inr (7, fs1))) (e3 : fs1[6]? = some (.ref q_fs1_6)) (e6 : h q_fs1_6 = some (.inl (1, n4, .inr (.inl f5)))) (b7 : vp_in x_5 n4) (e8 : fs1[7]? = some (.ref q_fs1_7)) (e11 : h q_fs1_7 = some (.inl (1, n9, .inr (.inl f10)))) (b12 : vp_in x_5 n9) (m13 : c ≤ MC) (m14 : s ≤ MS) (hc : call 69 [(.ref r_0), (.long (f5 x_5.toNatClampNeg)), (.long (f10 x_5.toNatClampNeg)), (.int x_1)] h z 0 0 P) (K : ∀ (o : Option Value) (h2 : HP) (z2 : Nat), P o h2 z2 → ip sc call 68 MC MS Q 157 [some (.ref r_0), some (.int x_1), some (.int x_2), o_3, some (.int x_4), some (.int x_5), o_6] (o.toList ++ [(.int x_2)]) h2 z2 c s) : ip sc call 68 MC MS Q 137 [some (.ref r_0), some (.int x_1), some (.int x_2), o_3, some (.int x_4), some (.int x_5), o_6] [] h z c s := by
  refine jp_load (pc2 := 138) (n := 2) rfl rfl rfl rfl ?_
  refine jp_load (pc2 := 139) (n := 0) rfl rfl rfl rfl ?_
  refine jp_load (pc2 := 140) (n := 0) rfl rfl rfl rfl ?_
  refine jp_getf (pc2 := 143) rfl rfl e2 e3 ?_
  refine jp_load (pc2 := 145) (n := 5) rfl rfl rfl rfl ?_
  refine jp_lald (pc2 := 146) rfl rfl e6 b7 ?_
  refine jp_load (pc2 := 147) (n := 0) rfl rfl rfl rfl ?_
  refine jp_getf (pc2 := 150) rfl rfl e2 e8 ?_
  refine jp_load (pc2 := 152) (n := 5) rfl rfl rfl rfl ?_
  refine jp_lald (pc2 := 153) rfl rfl e11 b12 ?_
  refine jp_load (pc2 := 154) (n := 1) rfl rfl rfl rfl ?_
  exact jp_virt0 (pc2 := 157) (As := [(.long (f5 x_5.toNatClampNeg)), (.long (f10 x_5.toNatClampNeg)), (.int x_1)]) (rest := [(.int x_2)]) rfl rfl rfl (Nat.le_of_ble_eq_true rfl) e2 m13 m14 hc rfl K
theorem b68_157 {r_0 : Nat} {x_1 : Int32} {o_2 : Option Value} {o_3 : Option Value} {x_4 : Int32} {x_5 : Int32} {o_6 : Option Value} {sx_0 : Int32} {sx_1 : Int32}  (K : ip sc call 68 MC MS Q 130 [some (.ref r_0), some (.int x_1), some (.int (sx_0 ^^^ sx_1)), o_3, some (.int x_4), some (.int (x_5 + 1)), o_6] [] h z c s) : ip sc call 68 MC MS Q 157 [some (.ref r_0), some (.int x_1), o_2, o_3, some (.int x_4), some (.int x_5), o_6] [(.int sx_1), (.int sx_0)] h z c s := by
  refine jp_bin (pc2 := 158) (v := sx_0 ^^^ sx_1) rfl rfl rfl ?_
  refine jp_store (pc2 := 159) (n := 2) rfl rfl ⟨rfl, rfl⟩ rfl (Nat.le_of_ble_eq_true rfl) ?_
  refine jp_iinc (pc2 := 162) (n := 5) (v := x_5 + 1) rfl rfl rfl rfl rfl ?_
  refine ip_goto rfl ?_
  exact K
theorem b68_165 {o_0 : Option Value} {o_1 : Option Value} {x_2 : Int32} {o_3 : Option Value} {o_4 : Option Value} {o_5 : Option Value} {o_6 : Option Value} (q1 : Q (some (.int x_2)) h z)  : ip sc call 68 MC MS Q 165 [o_0, o_1, some (.int x_2), o_3, o_4, o_5, o_6] [] h z c s := by
  refine jp_load (pc2 := 166) (n := 2) rfl rfl rfl rfl ?_
  exact ip_iret (st := []) rfl rfl rfl q1
theorem b69_0 {r_0 : Nat} {y_1 : Int64} {o_2 : Option Value} {y_3 : Int64} {o_4 : Option Value} {x_5 : Int32} {o_6 : Option Value} {o_7 : Option Value} {o_8 : Option Value} {o_9 : Option Value} {o_10 : Option Value} {o_11 : Option Value} {o_12 : Option Value} {fs1 : List Value} {q_fs1_2 : Nat} {fs4 : List Value} {P : ipQ} (e2 : h r_0 = some (.inr (7, fs1))) (e3 : fs1[2]? = some (.ref q_fs1_2)) (e5 : h q_fs1_2 = some (.inr (1, fs4))) (m6 : c ≤ MC) (m7 : s ≤ MS) (hc : call 8 [(.ref q_fs1_2), (.long y_1), (.long y_3)] h z 0 0 P) (K : ∀ (o : Option Value) (h2 : HP) (z2 : Nat), P o h2 z2 → ip sc call 69 MC MS Q 9 [some (.ref r_0), some (.long y_1), o_2, some (.long y_3), o_4, some (.int x_5), o_6, o_7, o_8, o_9, o_10, o_11, o_12] (o.toList ++ []) h2 z2 c s) : ip sc call 69 MC MS Q 0 [some (.ref r_0), some (.long y_1), o_2, some (.long y_3), o_4, some (.int x_5), o_6, o_7, o_8, o_9, o_10, o_11, o_12] [] h z c s := by
  refine jp_load (pc2 := 1) (n := 0) rfl rfl rfl rfl ?_
  refine jp_getf (pc2 := 4) rfl rfl e2 e3 ?_
  refine jp_load (pc2 := 5) (n := 1) rfl rfl rfl rfl ?_
  refine jp_load (pc2 := 6) (n := 3) rfl rfl rfl rfl ?_
  exact jp_virt0 (pc2 := 9) (As := [(.long y_1), (.long y_3)]) (rest := []) rfl rfl rfl (Nat.le_of_ble_eq_true rfl) e5 m6 m7 hc rfl K
theorem b69_9 {r_0 : Nat} {y_1 : Int64} {o_2 : Option Value} {y_3 : Int64} {o_4 : Option Value} {x_5 : Int32} {o_6 : Option Value} {o_7 : Option Value} {o_8 : Option Value} {o_9 : Option Value} {o_10 : Option Value} {o_11 : Option Value} {o_12 : Option Value} {sx_0 : Int32}  (K1 : sx_0 = ((-1)) → ip sc call 69 MC MS Q 20 [some (.ref r_0), some (.long y_1), o_2, some (.long y_3), o_4, some (.int x_5), some (.int sx_0), o_7, o_8, o_9, o_10, o_11, o_12] [] h z c s) (K2 : ¬ (sx_0 = ((-1))) → ip sc call 69 MC MS Q 17 [some (.ref r_0), some (.long y_1), o_2, some (.long y_3), o_4, some (.int x_5), some (.int sx_0), o_7, o_8, o_9, o_10, o_11, o_12] [] h z c s) : ip sc call 69 MC MS Q 9 [some (.ref r_0), some (.long y_1), o_2, some (.long y_3), o_4, some (.int x_5), o_6, o_7, o_8, o_9, o_10, o_11, o_12] [(.int sx_0)] h z c s := by
  refine jp_store (pc2 := 11) (n := 6) rfl rfl ⟨rfl, rfl⟩ rfl (Nat.le_of_ble_eq_true rfl) ?_
  refine jp_load (pc2 := 13) (n := 6) rfl rfl rfl rfl ?_
  refine jp_con (pc2 := 14) (v := .int (-1)) rfl rfl rfl ?_
  exact jp_icmp (pc2 := 17) rfl rfl K1 K2
theorem b69_17 {o_0 : Option Value} {o_1 : Option Value} {o_2 : Option Value} {o_3 : Option Value} {o_4 : Option Value} {o_5 : Option Value} {x_6 : Int32} {o_7 : Option Value} {o_8 : Option Value} {o_9 : Option Value} {o_10 : Option Value} {o_11 : Option Value} {o_12 : Option Value} (q1 : Q (some (.int x_6)) h z)  : ip sc call 69 MC MS Q 17 [o_0, o_1, o_2, o_3, o_4, o_5, some (.int x_6), o_7, o_8, o_9, o_10, o_11, o_12] [] h z c s := by
  refine jp_load (pc2 := 19) (n := 6) rfl rfl rfl rfl ?_
  exact ip_iret (st := []) rfl rfl rfl q1
theorem b69_20 {r_0 : Nat} {y_1 : Int64} {o_2 : Option Value} {y_3 : Int64} {o_4 : Option Value} {x_5 : Int32} {o_6 : Option Value} {o_7 : Option Value} {o_8 : Option Value} {o_9 : Option Value} {o_10 : Option Value} {o_11 : Option Value} {o_12 : Option Value}  (K1 : x_5 < 9 → ip sc call 69 MC MS Q 29 [some (.ref r_0), some (.long y_1), o_2, some (.long y_3), o_4, some (.int x_5), o_6, o_7, o_8, o_9, o_10, o_11, o_12] [] h z c s) (K2 : ¬ (x_5 < 9) → ip sc call 69 MC MS Q 27 [some (.ref r_0), some (.long y_1), o_2, some (.long y_3), o_4, some (.int x_5), o_6, o_7, o_8, o_9, o_10, o_11, o_12] [] h z c s) : ip sc call 69 MC MS Q 20 [some (.ref r_0), some (.long y_1), o_2, some (.long y_3), o_4, some (.int x_5), o_6, o_7, o_8, o_9, o_10, o_11, o_12] [] h z c s := by
  refine jp_load (pc2 := 22) (n := 5) rfl rfl rfl rfl ?_
  refine jp_con (pc2 := 24) (v := .int 9) rfl rfl rfl ?_
  exact jp_icmp (pc2 := 27) rfl rfl K1 K2
theorem b69_27 {o_0 : Option Value} {o_1 : Option Value} {o_2 : Option Value} {o_3 : Option Value} {o_4 : Option Value} {o_5 : Option Value} {o_6 : Option Value} {o_7 : Option Value} {o_8 : Option Value} {o_9 : Option Value} {o_10 : Option Value} {o_11 : Option Value} {o_12 : Option Value} (q1 : Q (some (.int 0)) h z)  : ip sc call 69 MC MS Q 27 [o_0, o_1, o_2, o_3, o_4, o_5, o_6, o_7, o_8, o_9, o_10, o_11, o_12] [] h z c s := by
  refine jp_con (pc2 := 28) (v := .int 0) rfl rfl rfl ?_
  exact ip_iret (st := []) rfl rfl rfl q1
theorem b69_29 {r_0 : Nat} {y_1 : Int64} {o_2 : Option Value} {y_3 : Int64} {o_4 : Option Value} {x_5 : Int32} {o_6 : Option Value} {o_7 : Option Value} {o_8 : Option Value} {o_9 : Option Value} {o_10 : Option Value} {o_11 : Option Value} {o_12 : Option Value} {fs1 : List Value} {q_fs1_4 : Nat} {n4 : Nat} {f5 : Nat → Option Nat} {q8 : Nat} {P : ipQ} (e2 : h r_0 = some (.inr (7, fs1))) (e3 : fs1[4]? = some (.ref q_fs1_4)) (e6 : h q_fs1_4 = some (.inl (5, n4, .inr (.inr (.inr (.inr f5)))))) (b7 : vp_in x_5 n4) (e9 : f5 x_5.toNatClampNeg = some q8) (k10 : ip2 o_6 = false) (m11 : c ≤ MC) (m12 : s ≤ MS) (hc : call 70 [(.ref r_0), (.long y_1), (.long y_3), (.ref q8)] h z 0 0 P) (K : ∀ (o : Option Value) (h2 : HP) (z2 : Nat), P o h2 z2 → ip sc call 69 MC MS Q 46 [some (.ref r_0), some (.long y_1), o_2, some (.long y_3), o_4, some (.int x_5), o_6, some (.ref q8), o_8, o_9, o_10, o_11, o_12] (o.toList ++ []) h2 z2 c s) : ip sc call 69 MC MS Q 29 [some (.ref r_0), some (.long y_1), o_2, some (.long y_3), o_4, some (.int x_5), o_6, o_7, o_8, o_9, o_10, o_11, o_12] [] h z c s := by
  refine jp_load (pc2 := 30) (n := 0) rfl rfl rfl rfl ?_
  refine jp_getf (pc2 := 33) rfl rfl e2 e3 ?_
  refine jp_load (pc2 := 35) (n := 5) rfl rfl rfl rfl ?_
  refine jp_aald (pc2 := 36) rfl rfl e6 (by decide) b7 e9 ?_
  refine jp_store (pc2 := 38) (n := 7) rfl rfl ⟨rfl, rfl⟩ k10 (Nat.le_of_ble_eq_true rfl) ?_
  refine jp_load (pc2 := 39) (n := 0) rfl rfl rfl rfl ?_
  refine jp_load (pc2 := 40) (n := 1) rfl rfl rfl rfl ?_
  refine jp_load (pc2 := 41) (n := 3) rfl rfl rfl rfl ?_
  refine jp_load (pc2 := 43) (n := 7) rfl rfl rfl rfl ?_
  exact jp_virt0 (pc2 := 46) (As := [(.long y_1), (.long y_3), (.ref q8)]) (rest := []) rfl rfl rfl (Nat.le_of_ble_eq_true rfl) e2 m11 m12 hc rfl K
theorem b69_46 {r_0 : Nat} {y_1 : Int64} {o_2 : Option Value} {y_3 : Int64} {o_4 : Option Value} {x_5 : Int32} {o_6 : Option Value} {r_7 : Nat} {o_8 : Option Value} {o_9 : Option Value} {o_10 : Option Value} {o_11 : Option Value} {o_12 : Option Value} {fs1 : List Value} {q_fs1_5 : Nat} {n4 : Nat} {f5 : Nat → Option Nat} {q8 : Nat} {fs10 : List Value} {P : ipQ} (e2 : h r_0 = some (.inr (7, fs1))) (e3 : fs1[5]? = some (.ref q_fs1_5)) (e6 : h q_fs1_5 = some (.inl (4, n4, .inr (.inr (.inr (.inr f5)))))) (b7 : vp_in x_5 n4) (e9 : f5 x_5.toNatClampNeg = some q8) (e11 : h q8 = some (.inr (2, fs10))) (m12 : c ≤ MC) (m13 : s ≤ MS) (hc : call 11 [(.ref q8)] h z 0 0 P) (K : ∀ (o : Option Value) (h2 : HP) (z2 : Nat), P o h2 z2 → ip sc call 69 MC MS Q 63 [some (.ref r_0), some (.long y_1), o_2, some (.long y_3), o_4, some (.int x_5), o_6, some (.ref r_7), some (.ref q8), some (.int 0), o_10, o_11, o_12] (o.toList ++ []) h2 z2 c s) : ip sc call 69 MC MS Q 46 [some (.ref r_0), some (.long y_1), o_2, some (.long y_3), o_4, some (.int x_5), o_6, some (.ref r_7), o_8, o_9, o_10, o_11, o_12] [] h z c s := by
  refine jp_load (pc2 := 47) (n := 0) rfl rfl rfl rfl ?_
  refine jp_getf (pc2 := 50) rfl rfl e2 e3 ?_
  refine jp_load (pc2 := 52) (n := 5) rfl rfl rfl rfl ?_
  refine jp_aald (pc2 := 53) rfl rfl e6 (by decide) b7 e9 ?_
  refine jp_store (pc2 := 55) (n := 8) rfl rfl ⟨rfl, rfl⟩ rfl (Nat.le_of_ble_eq_true rfl) ?_
  refine jp_con (pc2 := 56) (v := .int 0) rfl rfl rfl ?_
  refine jp_store (pc2 := 58) (n := 9) rfl rfl ⟨rfl, rfl⟩ rfl (Nat.le_of_ble_eq_true rfl) ?_
  refine jp_load (pc2 := 60) (n := 8) rfl rfl rfl rfl ?_
  exact jp_virt0 (pc2 := 63) (As := []) (rest := []) rfl rfl rfl (Nat.le_of_ble_eq_true rfl) e11 m12 m13 hc rfl K
theorem b69_63 {r_0 : Nat} {y_1 : Int64} {o_2 : Option Value} {y_3 : Int64} {o_4 : Option Value} {x_5 : Int32} {o_6 : Option Value} {r_7 : Nat} {r_8 : Nat} {x_9 : Int32} {o_10 : Option Value} {o_11 : Option Value} {o_12 : Option Value}  (K : ip sc call 69 MC MS Q 66 [some (.ref r_0), some (.long y_1), o_2, some (.long y_3), o_4, some (.int x_5), o_6, some (.ref r_7), some (.ref r_8), some (.int x_9), some (.int 0), o_11, o_12] [] h z c s) : ip sc call 69 MC MS Q 63 [some (.ref r_0), some (.long y_1), o_2, some (.long y_3), o_4, some (.int x_5), o_6, some (.ref r_7), some (.ref r_8), some (.int x_9), o_10, o_11, o_12] [] h z c s := by
  refine jp_con (pc2 := 64) (v := .int 0) rfl rfl rfl ?_
  refine jp_store (pc2 := 66) (n := 10) rfl rfl ⟨rfl, rfl⟩ rfl (Nat.le_of_ble_eq_true rfl) ?_
  exact K
theorem b69_66 {r_0 : Nat} {y_1 : Int64} {o_2 : Option Value} {y_3 : Int64} {o_4 : Option Value} {x_5 : Int32} {o_6 : Option Value} {r_7 : Nat} {r_8 : Nat} {x_9 : Int32} {x_10 : Int32} {o_11 : Option Value} {o_12 : Option Value}  (K1 : (1000000 : Int32) ≤ x_10 → ip sc call 69 MC MS Q 147 [some (.ref r_0), some (.long y_1), o_2, some (.long y_3), o_4, some (.int x_5), o_6, some (.ref r_7), some (.ref r_8), some (.int x_9), some (.int x_10), o_11, o_12] [] h z c s) (K2 : ¬ ((1000000 : Int32) ≤ x_10) → ip sc call 69 MC MS Q 73 [some (.ref r_0), some (.long y_1), o_2, some (.long y_3), o_4, some (.int x_5), o_6, some (.ref r_7), some (.ref r_8), some (.int x_9), some (.int x_10), o_11, o_12] [] h z c s) : ip sc call 69 MC MS Q 66 [some (.ref r_0), some (.long y_1), o_2, some (.long y_3), o_4, some (.int x_5), o_6, some (.ref r_7), some (.ref r_8), some (.int x_9), some (.int x_10), o_11, o_12] [] h z c s := by
  refine jp_load (pc2 := 68) (n := 10) rfl rfl rfl rfl ?_
  refine jp_con (pc2 := 70) (v := .int 1000000) rfl rfl rfl ?_
  exact jp_icmp (pc2 := 73) rfl rfl K1 K2
theorem b69_73 {r_0 : Nat} {y_1 : Int64} {o_2 : Option Value} {y_3 : Int64} {o_4 : Option Value} {x_5 : Int32} {o_6 : Option Value} {r_7 : Nat} {r_8 : Nat} {x_9 : Int32} {x_10 : Int32} {o_11 : Option Value} {o_12 : Option Value} {fs1 : List Value} {P : ipQ} (e2 : h r_7 = some (.inr (6, fs1))) (m3 : c ≤ MC) (m4 : s ≤ MS) (hc : call 46 [(.ref r_7), (.ref r_8)] h z 0 0 P) (K : ∀ (o : Option Value) (h2 : HP) (z2 : Nat), P o h2 z2 → ip sc call 69 MC MS Q 80 [some (.ref r_0), some (.long y_1), o_2, some (.long y_3), o_4, some (.int x_5), o_6, some (.ref r_7), some (.ref r_8), some (.int x_9), some (.int x_10), o_11, o_12] (o.toList ++ []) h2 z2 c s) : ip sc call 69 MC MS Q 73 [some (.ref r_0), some (.long y_1), o_2, some (.long y_3), o_4, some (.int x_5), o_6, some (.ref r_7), some (.ref r_8), some (.int x_9), some (.int x_10), o_11, o_12] [] h z c s := by
  refine jp_load (pc2 := 75) (n := 7) rfl rfl rfl rfl ?_
  refine jp_load (pc2 := 77) (n := 8) rfl rfl rfl rfl ?_
  exact jp_virt0 (pc2 := 80) (As := [(.ref r_8)]) (rest := []) rfl rfl rfl (Nat.le_of_ble_eq_true rfl) e2 m3 m4 hc rfl K
theorem b69_80 {r_0 : Nat} {y_1 : Int64} {o_2 : Option Value} {y_3 : Int64} {o_4 : Option Value} {x_5 : Int32} {o_6 : Option Value} {r_7 : Nat} {r_8 : Nat} {x_9 : Int32} {x_10 : Int32} {o_11 : Option Value} {o_12 : Option Value} {sx_0 : Int32}  (K1 : sx_0 = 0 → ip sc call 69 MC MS Q 147 [some (.ref r_0), some (.long y_1), o_2, some (.long y_3), o_4, some (.int x_5), o_6, some (.ref r_7), some (.ref r_8), some (.int x_9), some (.int x_10), o_11, o_12] [] h z c s) (K2 : ¬ (sx_0 = 0) → ip sc call 69 MC MS Q 83 [some (.ref r_0), some (.long y_1), o_2, some (.long y_3), o_4, some (.int x_5), o_6, some (.ref r_7), some (.ref r_8), some (.int x_9), some (.int x_10), o_11, o_12] [] h z c s) : ip sc call 69 MC MS Q 80 [some (.ref r_0), some (.long y_1), o_2, some (.long y_3), o_4, some (.int x_5), o_6, some (.ref r_7), some (.ref r_8), some (.int x_9), some (.int x_10), o_11, o_12] [(.int sx_0)] h z c s := by
  exact jp_if0 (pc2 := 83) rfl rfl K1 K2
theorem b69_83 {r_0 : Nat} {y_1 : Int64} {o_2 : Option Value} {y_3 : Int64} {o_4 : Option Value} {x_5 : Int32} {o_6 : Option Value} {r_7 : Nat} {r_8 : Nat} {x_9 : Int32} {x_10 : Int32} {o_11 : Option Value} {o_12 : Option Value} {fs1 : List Value} {P : ipQ} (e2 : h r_7 = some (.inr (6, fs1))) (m3 : c ≤ MC) (m4 : s ≤ MS) (hc : call 44 [(.ref r_7), (.ref r_8)] h z 0 0 P) (K : ∀ (o : Option Value) (h2 : HP) (z2 : Nat), P o h2 z2 → ip sc call 69 MC MS Q 90 [some (.ref r_0), some (.long y_1), o_2, some (.long y_3), o_4, some (.int x_5), o_6, some (.ref r_7), some (.ref r_8), some (.int x_9), some (.int x_10), o_11, o_12] (o.toList ++ []) h2 z2 c s) : ip sc call 69 MC MS Q 83 [some (.ref r_0), some (.long y_1), o_2, some (.long y_3), o_4, some (.int x_5), o_6, some (.ref r_7), some (.ref r_8), some (.int x_9), some (.int x_10), o_11, o_12] [] h z c s := by
  refine jp_load (pc2 := 85) (n := 7) rfl rfl rfl rfl ?_
  refine jp_load (pc2 := 87) (n := 8) rfl rfl rfl rfl ?_
  exact jp_virt0 (pc2 := 90) (As := [(.ref r_8)]) (rest := []) rfl rfl rfl (Nat.le_of_ble_eq_true rfl) e2 m3 m4 hc rfl K
theorem b69_90 {r_0 : Nat} {y_1 : Int64} {o_2 : Option Value} {y_3 : Int64} {o_4 : Option Value} {x_5 : Int32} {o_6 : Option Value} {r_7 : Nat} {r_8 : Nat} {x_9 : Int32} {x_10 : Int32} {o_11 : Option Value} {o_12 : Option Value} {sx_0 : Int32}  (K : ip sc call 69 MC MS Q 95 [some (.ref r_0), some (.long y_1), o_2, some (.long y_3), o_4, some (.int x_5), o_6, some (.ref r_7), some (.ref r_8), some (.int x_9), some (.int x_10), some (.int sx_0), some (.int 0)] [] h z c s) : ip sc call 69 MC MS Q 90 [some (.ref r_0), some (.long y_1), o_2, some (.long y_3), o_4, some (.int x_5), o_6, some (.ref r_7), some (.ref r_8), some (.int x_9), some (.int x_10), o_11, o_12] [(.int sx_0)] h z c s := by
  refine jp_store (pc2 := 92) (n := 11) rfl rfl ⟨rfl, rfl⟩ rfl (Nat.le_of_ble_eq_true rfl) ?_
  refine jp_con (pc2 := 93) (v := .int 0) rfl rfl rfl ?_
  refine jp_store (pc2 := 95) (n := 12) rfl rfl ⟨rfl, rfl⟩ rfl (Nat.le_of_ble_eq_true rfl) ?_
  exact K
theorem b69_95 {r_0 : Nat} {y_1 : Int64} {o_2 : Option Value} {y_3 : Int64} {o_4 : Option Value} {x_5 : Int32} {o_6 : Option Value} {r_7 : Nat} {r_8 : Nat} {x_9 : Int32} {x_10 : Int32} {x_11 : Int32} {x_12 : Int32}  (K1 : x_11 ≤ x_12 → ip sc call 69 MC MS Q 141 [some (.ref r_0), some (.long y_1), o_2, some (.long y_3), o_4, some (.int x_5), o_6, some (.ref r_7), some (.ref r_8), some (.int x_9), some (.int x_10), some (.int x_11), some (.int x_12)] [] h z c s) (K2 : ¬ (x_11 ≤ x_12) → ip sc call 69 MC MS Q 102 [some (.ref r_0), some (.long y_1), o_2, some (.long y_3), o_4, some (.int x_5), o_6, some (.ref r_7), some (.ref r_8), some (.int x_9), some (.int x_10), some (.int x_11), some (.int x_12)] [] h z c s) : ip sc call 69 MC MS Q 95 [some (.ref r_0), some (.long y_1), o_2, some (.long y_3), o_4, some (.int x_5), o_6, some (.ref r_7), some (.ref r_8), some (.int x_9), some (.int x_10), some (.int x_11), some (.int x_12)] [] h z c s := by
  refine jp_load (pc2 := 97) (n := 12) rfl rfl rfl rfl ?_
  refine jp_load (pc2 := 99) (n := 11) rfl rfl rfl rfl ?_
  exact jp_icmp (pc2 := 102) rfl rfl K1 K2
theorem b69_102 {r_0 : Nat} {y_1 : Int64} {o_2 : Option Value} {y_3 : Int64} {o_4 : Option Value} {x_5 : Int32} {o_6 : Option Value} {r_7 : Nat} {r_8 : Nat} {x_9 : Int32} {x_10 : Int32} {x_11 : Int32} {x_12 : Int32} {fs1 : List Value} {fs4 : List Value} {q_fs4_3 : Nat} {fs8 : List Value} {P : ipQ} (e2 : h r_8 = some (.inr (2, fs1))) (l3 : fs1.length = 6) (e5 : h r_0 = some (.inr (7, fs4))) (n6 : r_0 ≠ r_8) (e7 : fs4[3]? = some (.ref q_fs4_3)) (e9 : h q_fs4_3 = some (.inr (6, fs8))) (n10 : q_fs4_3 ≠ r_8) (m11 : c ≤ MC) (m12 : s ≤ MS) (hc : call 54 [(.ref q_fs4_3), (.ref r_7), (.ref r_8)] (hup h r_8 (.inr (2, (fs1.set 5 (.int x_12))))) z 0 0 P) (K : ∀ (o : Option Value) (h2 : HP) (z2 : Nat), P o h2 z2 → ip sc call 69 MC MS Q 120 [some (.ref r_0), some (.long y_1), o_2, some (.long y_3), o_4, some (.int x_5), o_6, some (.ref r_7), some (.ref r_8), some (.int x_9), some (.int x_10), some (.int x_11), some (.int x_12)] (o.toList ++ []) h2 z2 c s) : ip sc call 69 MC MS Q 102 [some (.ref r_0), some (.long y_1), o_2, some (.long y_3), o_4, some (.int x_5), o_6, some (.ref r_7), some (.ref r_8), some (.int x_9), some (.int x_10), some (.int x_11), some (.int x_12)] [] h z c s := by
  refine jp_load (pc2 := 104) (n := 8) rfl rfl rfl rfl ?_
  refine jp_load (pc2 := 106) (n := 12) rfl rfl rfl rfl ?_
  refine jp_putf (pc2 := 109) rfl rfl e2 (ln_lt l3 (by decide)) ⟨rfl, rfl⟩ ?_
  refine jp_load (pc2 := 110) (n := 0) rfl rfl rfl rfl ?_
  refine jp_getf (pc2 := 113) rfl rfl (hup_ne n6 e5) e7 ?_
  refine jp_load (pc2 := 115) (n := 7) rfl rfl rfl rfl ?_
  refine jp_load (pc2 := 117) (n := 8) rfl rfl rfl rfl ?_
  exact jp_virt0 (pc2 := 120) (As := [(.ref r_7), (.ref r_8)]) (rest := []) rfl rfl rfl (Nat.le_of_ble_eq_true rfl) (hup_ne n10 e9) m11 m12 hc rfl K
theorem b69_120 {r_0 : Nat} {y_1 : Int64} {o_2 : Option Value} {y_3 : Int64} {o_4 : Option Value} {x_5 : Int32} {o_6 : Option Value} {r_7 : Nat} {r_8 : Nat} {x_9 : Int32} {x_10 : Int32} {x_11 : Int32} {x_12 : Int32} {fs1 : List Value} {P : ipQ} (e2 : h r_0 = some (.inr (7, fs1))) (m3 : c ≤ MC) (m4 : s ≤ MS) (hc : call 68 [(.ref r_0), (.int (x_5 + 1))] h z 0 0 P) (K : ∀ (o : Option Value) (h2 : HP) (z2 : Nat), P o h2 z2 → ip sc call 69 MC MS Q 131 [some (.ref r_0), some (.long y_1), o_2, some (.long y_3), o_4, some (.int x_5), o_6, some (.ref r_7), some (.ref r_8), some (.int x_9), some (.int x_10), some (.int x_11), some (.int x_12)] (o.toList ++ [(.int 1), (.int x_9)]) h2 z2 c s) : ip sc call 69 MC MS Q 120 [some (.ref r_0), some (.long y_1), o_2, some (.long y_3), o_4, some (.int x_5), o_6, some (.ref r_7), some (.ref r_8), some (.int x_9), some (.int x_10), some (.int x_11), some (.int x_12)] [] h z c s := by
  refine jp_load (pc2 := 122) (n := 9) rfl rfl rfl rfl ?_
  refine jp_con (pc2 := 123) (v := .int 1) rfl rfl rfl ?_
  refine jp_load (pc2 := 124) (n := 0) rfl rfl rfl rfl ?_
  refine jp_load (pc2 := 126) (n := 5) rfl rfl rfl rfl ?_
  refine jp_con (pc2 := 127) (v := .int 1) rfl rfl rfl ?_
  refine jp_bin (pc2 := 128) (v := x_5 + 1) rfl rfl rfl ?_
  exact jp_virt0 (pc2 := 131) (As := [(.int (x_5 + 1))]) (rest := [(.int 1), (.int x_9)]) rfl rfl rfl (Nat.le_of_ble_eq_true rfl) e2 m3 m4 hc rfl K
theorem b69_131 {r_0 : Nat} {y_1 : Int64} {o_2 : Option Value} {y_3 : Int64} {o_4 : Option Value} {x_5 : Int32} {o_6 : Option Value} {r_7 : Nat} {r_8 : Nat} {o_9 : Option Value} {x_10 : Int32} {x_11 : Int32} {x_12 : Int32} {sx_0 : Int32} {sx_1 : Int32} {sx_2 : Int32}  (K : ip sc call 69 MC MS Q 95 [some (.ref r_0), some (.long y_1), o_2, some (.long y_3), o_4, some (.int x_5), o_6, some (.ref r_7), some (.ref r_8), some (.int (sx_0 ||| (sx_1 <<< (sx_2 &&& 31)))), some (.int x_10), some (.int x_11), some (.int (x_12 + 1))] [] h z c s) : ip sc call 69 MC MS Q 131 [some (.ref r_0), some (.long y_1), o_2, some (.long y_3), o_4, some (.int x_5), o_6, some (.ref r_7), some (.ref r_8), o_9, some (.int x_10), some (.int x_11), some (.int x_12)] [(.int sx_2), (.int sx_1), (.int sx_0)] h z c s := by
  refine jp_bin (pc2 := 132) (v := sx_1 <<< (sx_2 &&& 31)) rfl rfl rfl ?_
  refine jp_bin (pc2 := 133) (v := sx_0 ||| (sx_1 <<< (sx_2 &&& 31))) rfl rfl rfl ?_
  refine jp_store (pc2 := 135) (n := 9) rfl rfl ⟨rfl, rfl⟩ rfl (Nat.le_of_ble_eq_true rfl) ?_
  refine jp_iinc (pc2 := 138) (n := 12) (v := x_12 + 1) rfl rfl rfl rfl rfl ?_
  refine ip_goto rfl ?_
  exact K
theorem b69_141 {r_0 : Nat} {y_1 : Int64} {o_2 : Option Value} {y_3 : Int64} {o_4 : Option Value} {x_5 : Int32} {o_6 : Option Value} {r_7 : Nat} {r_8 : Nat} {x_9 : Int32} {x_10 : Int32} {o_11 : Option Value} {o_12 : Option Value}  (K : ip sc call 69 MC MS Q 66 [some (.ref r_0), some (.long y_1), o_2, some (.long y_3), o_4, some (.int x_5), o_6, some (.ref r_7), some (.ref r_8), some (.int x_9), some (.int (x_10 + 1)), o_11, o_12] [] h z c s) : ip sc call 69 MC MS Q 141 [some (.ref r_0), some (.long y_1), o_2, some (.long y_3), o_4, some (.int x_5), o_6, some (.ref r_7), some (.ref r_8), some (.int x_9), some (.int x_10), o_11, o_12] [] h z c s := by
  refine jp_iinc (pc2 := 144) (n := 10) (v := x_10 + 1) rfl rfl rfl rfl rfl ?_
  refine ip_goto rfl ?_
  exact K
theorem b69_147 {r_0 : Nat} {y_1 : Int64} {o_2 : Option Value} {y_3 : Int64} {o_4 : Option Value} {o_5 : Option Value} {o_6 : Option Value} {o_7 : Option Value} {o_8 : Option Value} {x_9 : Int32} {o_10 : Option Value} {o_11 : Option Value} {o_12 : Option Value} {P : ipQ} (m1 : c ≤ MC) (m2 : s ≤ MS) (hc : call 151 [(.int (x_9 ^^^ ((-1))))] h z 0 0 P) (K : ∀ (o : Option Value) (h2 : HP) (z2 : Nat), P o h2 z2 → ip sc call 69 MC MS Q 154 [some (.ref r_0), some (.long y_1), o_2, some (.long y_3), o_4, o_5, o_6, o_7, o_8, some (.int x_9), o_10, o_11, o_12] (o.toList ++ []) h2 z2 c s) : ip sc call 69 MC MS Q 147 [some (.ref r_0), some (.long y_1), o_2, some (.long y_3), o_4, o_5, o_6, o_7, o_8, some (.int x_9), o_10, o_11, o_12] [] h z c s := by
  refine jp_load (pc2 := 149) (n := 9) rfl rfl rfl rfl ?_
  refine jp_con (pc2 := 150) (v := .int (-1)) rfl rfl rfl ?_
  refine jp_bin (pc2 := 151) (v := x_9 ^^^ ((-1))) rfl rfl rfl ?_
  exact jp_stat0 (pc2 := 154) (As := [(.int (x_9 ^^^ ((-1))))]) (rest := []) rfl rfl rfl (Nat.le_of_ble_eq_true rfl) m1 m2 (by decide) hc rfl K
theorem b69_154 {r_0 : Nat} {y_1 : Int64} {o_2 : Option Value} {y_3 : Int64} {o_4 : Option Value} {o_5 : Option Value} {o_6 : Option Value} {o_7 : Option Value} {o_8 : Option Value} {o_9 : Option Value} {o_10 : Option Value} {o_11 : Option Value} {o_12 : Option Value} {sx_0 : Int32} {fs2 : List Value} {q_fs2_2 : Nat} {fs5 : List Value} {P : ipQ} (k1 : ip2 o_9 = false) (e3 : h r_0 = some (.inr (7, fs2))) (e4 : fs2[2]? = some (.ref q_fs2_2)) (e6 : h q_fs2_2 = some (.inr (1, fs5))) (m7 : c ≤ MC) (m8 : s ≤ MS) (hc : call 9 [(.ref q_fs2_2), (.long y_1), (.long y_3), (.int sx_0)] h z 0 0 P) (K : ∀ (o : Option Value) (h2 : HP) (z2 : Nat), P o h2 z2 → ip sc call 69 MC MS Q 167 [some (.ref r_0), some (.long y_1), o_2, some (.long y_3), o_4, o_5, o_6, o_7, o_8, o_9, some (.int sx_0), o_11, o_12] (o.toList ++ []) h2 z2 c s) : ip sc call 69 MC MS Q 154 [some (.ref r_0), some (.long y_1), o_2, some (.long y_3), o_4, o_5, o_6, o_7, o_8, o_9, o_10, o_11, o_12] [(.int sx_0)] h z c s := by
  refine jp_store (pc2 := 156) (n := 10) rfl rfl ⟨rfl, rfl⟩ k1 (Nat.le_of_ble_eq_true rfl) ?_
  refine jp_load (pc2 := 157) (n := 0) rfl rfl rfl rfl ?_
  refine jp_getf (pc2 := 160) rfl rfl e3 e4 ?_
  refine jp_load (pc2 := 161) (n := 1) rfl rfl rfl rfl ?_
  refine jp_load (pc2 := 162) (n := 3) rfl rfl rfl rfl ?_
  refine jp_load (pc2 := 164) (n := 10) rfl rfl rfl rfl ?_
  exact jp_virt0 (pc2 := 167) (As := [(.long y_1), (.long y_3), (.int sx_0)]) (rest := []) rfl rfl rfl (Nat.le_of_ble_eq_true rfl) e6 m7 m8 hc rfl K
theorem b69_167 {o_0 : Option Value} {o_1 : Option Value} {o_2 : Option Value} {o_3 : Option Value} {o_4 : Option Value} {o_5 : Option Value} {o_6 : Option Value} {o_7 : Option Value} {o_8 : Option Value} {o_9 : Option Value} {x_10 : Int32} {o_11 : Option Value} {o_12 : Option Value} (q1 : Q (some (.int x_10)) h z)  : ip sc call 69 MC MS Q 167 [o_0, o_1, o_2, o_3, o_4, o_5, o_6, o_7, o_8, o_9, some (.int x_10), o_11, o_12] [] h z c s := by
  refine jp_load (pc2 := 169) (n := 10) rfl rfl rfl rfl ?_
  exact ip_iret (st := []) rfl rfl rfl q1
theorem b70_0 {r_0 : Nat} {y_1 : Int64} {o_2 : Option Value} {y_3 : Int64} {o_4 : Option Value} {r_5 : Nat} {o_6 : Option Value} {fs1 : List Value} {P : ipQ} (e2 : h r_5 = some (.inr (6, fs1))) (m3 : c ≤ MC) (m4 : s ≤ MS) (hc : call 49 [(.ref r_5)] h z 0 0 P) (K : ∀ (o : Option Value) (h2 : HP) (z2 : Nat), P o h2 z2 → ip sc call 70 MC MS Q 5 [some (.ref r_0), some (.long y_1), o_2, some (.long y_3), o_4, some (.ref r_5), o_6] (o.toList ++ []) h2 z2 c s) : ip sc call 70 MC MS Q 0 [some (.ref r_0), some (.long y_1), o_2, some (.long y_3), o_4, some (.ref r_5), o_6] [] h z c s := by
  refine jp_load (pc2 := 2) (n := 5) rfl rfl rfl rfl ?_
  exact jp_virt0 (pc2 := 5) (As := []) (rest := []) rfl rfl rfl (Nat.le_of_ble_eq_true rfl) e2 m3 m4 hc rfl K
theorem b70_5 {r_0 : Nat} {y_1 : Int64} {o_2 : Option Value} {y_3 : Int64} {o_4 : Option Value} {r_5 : Nat} {o_6 : Option Value}  (K : ip sc call 70 MC MS Q 8 [some (.ref r_0), some (.long y_1), o_2, some (.long y_3), o_4, some (.ref r_5), some (.int 0)] [] h z c s) : ip sc call 70 MC MS Q 5 [some (.ref r_0), some (.long y_1), o_2, some (.long y_3), o_4, some (.ref r_5), o_6] [] h z c s := by
  refine jp_con (pc2 := 6) (v := .int 0) rfl rfl rfl ?_
  refine jp_store (pc2 := 8) (n := 6) rfl rfl ⟨rfl, rfl⟩ rfl (Nat.le_of_ble_eq_true rfl) ?_
  exact K
theorem b70_8 {r_0 : Nat} {y_1 : Int64} {o_2 : Option Value} {y_3 : Int64} {o_4 : Option Value} {r_5 : Nat} {x_6 : Int32} {fs1 : List Value} {q_fs1_8 : Nat} {n4 : Nat} {f5 : Nat → Int32} (e2 : h r_0 = some (.inr (7, fs1))) (e3 : fs1[8]? = some (.ref q_fs1_8)) (e6 : h q_fs1_8 = some (.inl (0, n4, .inl f5))) (K1 : (Int32.ofNat n4) ≤ x_6 → ip sc call 70 MC MS Q 32 [some (.ref r_0), some (.long y_1), o_2, some (.long y_3), o_4, some (.ref r_5), some (.int x_6)] [] h z c s) (K2 : ¬ ((Int32.ofNat n4) ≤ x_6) → ip sc call 70 MC MS Q 18 [some (.ref r_0), some (.long y_1), o_2, some (.long y_3), o_4, some (.ref r_5), some (.int x_6)] [] h z c s) : ip sc call 70 MC MS Q 8 [some (.ref r_0), some (.long y_1), o_2, some (.long y_3), o_4, some (.ref r_5), some (.int x_6)] [] h z c s := by
  refine jp_load (pc2 := 10) (n := 6) rfl rfl rfl rfl ?_
  refine jp_load (pc2 := 11) (n := 0) rfl rfl rfl rfl ?_
  refine jp_getf (pc2 := 14) rfl rfl e2 e3 ?_
  refine jp_alen (pc2 := 15) rfl rfl e6 (by decide) ?_
  exact jp_icmp (pc2 := 18) rfl rfl K1 K2
theorem b70_18 {r_0 : Nat} {y_1 : Int64} {o_2 : Option Value} {y_3 : Int64} {o_4 : Option Value} {r_5 : Nat} {x_6 : Int32} {fs1 : List Value} {q_fs1_8 : Nat} {n4 : Nat} {f5 : Nat → Int32} (e2 : h r_0 = some (.inr (7, fs1))) (e3 : fs1[8]? = some (.ref q_fs1_8)) (e6 : h q_fs1_8 = some (.inl (0, n4, .inl f5))) (b7 : vp_in x_6 n4) (K : ip sc call 70 MC MS Q 8 [some (.ref r_0), some (.long y_1), o_2, some (.long y_3), o_4, some (.ref r_5), some (.int (x_6 + 1))] [] (hup h q_fs1_8 (.inl (0, n4, .inl (upd f5 x_6.toNatClampNeg ((-1)))))) z c s) : ip sc call 70 MC MS Q 18 [some (.ref r_0), some (.long y_1), o_2, some (.long y_3), o_4, some (.ref r_5), some (.int x_6)] [] h z c s := by
  refine jp_load (pc2 := 19) (n := 0) rfl rfl rfl rfl ?_
  refine jp_getf (pc2 := 22) rfl rfl e2 e3 ?_
  refine jp_load (pc2 := 24) (n := 6) rfl rfl rfl rfl ?_
  refine jp_con (pc2 := 25) (v := .int (-1)) rfl rfl rfl ?_
  refine jp_iast (pc2 := 26) rfl rfl e6 b7 ?_
  refine jp_iinc (pc2 := 29) (n := 6) (v := x_6 + 1) rfl rfl rfl rfl rfl ?_
  refine ip_goto rfl ?_
  exact K
theorem b70_32 {r_0 : Nat} {y_1 : Int64} {o_2 : Option Value} {y_3 : Int64} {o_4 : Option Value} {r_5 : Nat} {o_6 : Option Value} {fs1 : List Value} {P : ipQ} (e2 : h r_0 = some (.inr (7, fs1))) (m3 : c ≤ MC) (m4 : s ≤ MS) (hc : call 71 [(.ref r_0), (.long y_1), (.ref r_5)] h z 0 0 P) (K : ∀ (o : Option Value) (h2 : HP) (z2 : Nat), P o h2 z2 → ip sc call 70 MC MS Q 39 [some (.ref r_0), some (.long y_1), o_2, some (.long y_3), o_4, some (.ref r_5), o_6] (o.toList ++ []) h2 z2 c s) : ip sc call 70 MC MS Q 32 [some (.ref r_0), some (.long y_1), o_2, some (.long y_3), o_4, some (.ref r_5), o_6] [] h z c s := by
  refine jp_load (pc2 := 33) (n := 0) rfl rfl rfl rfl ?_
  refine jp_load (pc2 := 34) (n := 1) rfl rfl rfl rfl ?_
  refine jp_load (pc2 := 36) (n := 5) rfl rfl rfl rfl ?_
  exact jp_virt0 (pc2 := 39) (As := [(.long y_1), (.ref r_5)]) (rest := []) rfl rfl rfl (Nat.le_of_ble_eq_true rfl) e2 m3 m4 hc rfl K
theorem b70_39 {r_0 : Nat} {o_1 : Option Value} {o_2 : Option Value} {y_3 : Int64} {o_4 : Option Value} {r_5 : Nat} {o_6 : Option Value} {fs1 : List Value} {P : ipQ} (e2 : h r_0 = some (.inr (7, fs1))) (m3 : c ≤ MC) (m4 : s ≤ MS) (hc : call 71 [(.ref r_0), (.long y_3), (.ref r_5)] h z 0 0 P) (K : ∀ (o : Option Value) (h2 : HP) (z2 : Nat), P o h2 z2 → ip sc call 70 MC MS Q 46 [some (.ref r_0), o_1, o_2, some (.long y_3), o_4, some (.ref r_5), o_6] (o.toList ++ []) h2 z2 c s) : ip sc call 70 MC MS Q 39 [some (.ref r_0), o_1, o_2, some (.long y_3), o_4, some (.ref r_5), o_6] [] h z c s := by
  refine jp_load (pc2 := 40) (n := 0) rfl rfl rfl rfl ?_
  refine jp_load (pc2 := 41) (n := 3) rfl rfl rfl rfl ?_
  refine jp_load (pc2 := 43) (n := 5) rfl rfl rfl rfl ?_
  exact jp_virt0 (pc2 := 46) (As := [(.long y_3), (.ref r_5)]) (rest := []) rfl rfl rfl (Nat.le_of_ble_eq_true rfl) e2 m3 m4 hc rfl K
theorem b70_46 {o_0 : Option Value} {o_1 : Option Value} {o_2 : Option Value} {o_3 : Option Value} {o_4 : Option Value} {o_5 : Option Value} {o_6 : Option Value} (q1 : Q none h z)  : ip sc call 70 MC MS Q 46 [o_0, o_1, o_2, o_3, o_4, o_5, o_6] [] h z c s := by
  exact ip_vret (st := []) rfl rfl q1
theorem b71_0 {r_0 : Nat} {y_1 : Int64} {o_2 : Option Value} {r_3 : Nat} {o_4 : Option Value} {o_5 : Option Value} {o_6 : Option Value} {o_7 : Option Value} {o_8 : Option Value} (k1 : ip2 none = false) (K : ip sc call 71 MC MS Q 6 [some (.ref r_0), some (.long y_1), o_2, some (.ref r_3), some (.long y_1), none, some (.int 0), o_7, o_8] [] h z c s) : ip sc call 71 MC MS Q 0 [some (.ref r_0), some (.long y_1), o_2, some (.ref r_3), o_4, o_5, o_6, o_7, o_8] [] h z c s := by
  refine jp_load (pc2 := 1) (n := 1) rfl rfl rfl rfl ?_
  refine jp_store2 (pc2 := 3) (n := 4) rfl rfl ⟨rfl, rfl⟩ rfl (Nat.le_of_ble_eq_true rfl) ?_
  refine jp_con (pc2 := 4) (v := .int 0) rfl rfl rfl ?_
  refine jp_store (pc2 := 6) (n := 6) rfl rfl ⟨rfl, rfl⟩ k1 (Nat.le_of_ble_eq_true rfl) ?_
  exact K
theorem b71_6 {r_0 : Nat} {o_1 : Option Value} {o_2 : Option Value} {r_3 : Nat} {y_4 : Int64} {o_5 : Option Value} {x_6 : Int32} {o_7 : Option Value} {o_8 : Option Value}  (K1 : (10 : Int32) ≤ x_6 → ip sc call 71 MC MS Q 80 [some (.ref r_0), o_1, o_2, some (.ref r_3), some (.long y_4), o_5, some (.int x_6), o_7, o_8] [] h z c s) (K2 : ¬ ((10 : Int32) ≤ x_6) → ip sc call 71 MC MS Q 13 [some (.ref r_0), o_1, o_2, some (.ref r_3), some (.long y_4), o_5, some (.int x_6), o_7, o_8] [] h z c s) : ip sc call 71 MC MS Q 6 [some (.ref r_0), o_1, o_2, some (.ref r_3), some (.long y_4), o_5, some (.int x_6), o_7, o_8] [] h z c s := by
  refine jp_load (pc2 := 8) (n := 6) rfl rfl rfl rfl ?_
  refine jp_con (pc2 := 10) (v := .int 10) rfl rfl rfl ?_
  exact jp_icmp (pc2 := 13) rfl rfl K1 K2
theorem b71_13 {r_0 : Nat} {o_1 : Option Value} {o_2 : Option Value} {r_3 : Nat} {y_4 : Int64} {o_5 : Option Value} {x_6 : Int32} {o_7 : Option Value} {o_8 : Option Value}  (K1 : (lg_cmp y_4 0) = 0 → ip sc call 71 MC MS Q 80 [some (.ref r_0), o_1, o_2, some (.ref r_3), some (.long y_4), o_5, some (.int x_6), o_7, o_8] [] h z c s) (K2 : ¬ ((lg_cmp y_4 0) = 0) → ip sc call 71 MC MS Q 20 [some (.ref r_0), o_1, o_2, some (.ref r_3), some (.long y_4), o_5, some (.int x_6), o_7, o_8] [] h z c s) : ip sc call 71 MC MS Q 13 [some (.ref r_0), o_1, o_2, some (.ref r_3), some (.long y_4), o_5, some (.int x_6), o_7, o_8] [] h z c s := by
  refine jp_load (pc2 := 15) (n := 4) rfl rfl rfl rfl ?_
  refine jp_con (pc2 := 16) (v := .long 0) rfl rfl rfl ?_
  refine jp_lcmp (pc2 := 17) rfl rfl ?_
  exact jp_if0 (pc2 := 20) rfl rfl K1 K2
theorem b71_20 {r_0 : Nat} {o_1 : Option Value} {o_2 : Option Value} {r_3 : Nat} {y_4 : Int64} {o_5 : Option Value} {x_6 : Int32} {o_7 : Option Value} {o_8 : Option Value} {fs1 : List Value} {P : ipQ} (e2 : h r_0 = some (.inr (7, fs1))) (m3 : c ≤ MC) (m4 : s ≤ MS) (hc : call 72 [(.ref r_0), (.int (((y_4 >>> ((2 : Int32).toInt64 &&& 63)).toInt32) &&& 15)), (.ref r_3)] h z 0 0 P) (K : ∀ (o : Option Value) (h2 : HP) (z2 : Nat), P o h2 z2 → ip sc call 71 MC MS Q 45 [some (.ref r_0), o_1, o_2, some (.ref r_3), some (.long y_4), o_5, some (.int x_6), some (.int (((y_4 >>> ((2 : Int32).toInt64 &&& 63)).toInt32) &&& 15)), some (.int (y_4.toInt32 &&& 3))] (o.toList ++ [(.ref r_3)]) h2 z2 c s) : ip sc call 71 MC MS Q 20 [some (.ref r_0), o_1, o_2, some (.ref r_3), some (.long y_4), o_5, some (.int x_6), o_7, o_8] [] h z c s := by
  refine jp_load (pc2 := 22) (n := 4) rfl rfl rfl rfl ?_
  refine jp_con (pc2 := 23) (v := .int 2) rfl rfl rfl ?_
  refine jp_lsh (pc2 := 24) (v := y_4 >>> ((2 : Int32).toInt64 &&& 63)) rfl rfl rfl ?_
  refine jp_cv (pc2 := 25) (v := (.int ((y_4 >>> ((2 : Int32).toInt64 &&& 63)).toInt32))) rfl rfl rfl ?_
  refine jp_con (pc2 := 27) (v := .int 15) rfl rfl rfl ?_
  refine jp_bin (pc2 := 28) (v := ((y_4 >>> ((2 : Int32).toInt64 &&& 63)).toInt32) &&& 15) rfl rfl rfl ?_
  refine jp_store (pc2 := 30) (n := 7) rfl rfl ⟨rfl, rfl⟩ rfl (Nat.le_of_ble_eq_true rfl) ?_
  refine jp_load (pc2 := 32) (n := 4) rfl rfl rfl rfl ?_
  refine jp_cv (pc2 := 33) (v := (.int y_4.toInt32)) rfl rfl rfl ?_
  refine jp_con (pc2 := 34) (v := .int 3) rfl rfl rfl ?_
  refine jp_bin (pc2 := 35) (v := y_4.toInt32 &&& 3) rfl rfl rfl ?_
  refine jp_store (pc2 := 37) (n := 8) rfl rfl ⟨rfl, rfl⟩ rfl (Nat.le_of_ble_eq_true rfl) ?_
  refine jp_load (pc2 := 38) (n := 3) rfl rfl rfl rfl ?_
  refine jp_load (pc2 := 39) (n := 0) rfl rfl rfl rfl ?_
  refine jp_load (pc2 := 41) (n := 7) rfl rfl rfl rfl ?_
  refine jp_load (pc2 := 42) (n := 3) rfl rfl rfl rfl ?_
  exact jp_virt0 (pc2 := 45) (As := [(.int (((y_4 >>> ((2 : Int32).toInt64 &&& 63)).toInt32) &&& 15)), (.ref r_3)]) (rest := [(.ref r_3)]) rfl rfl rfl (Nat.le_of_ble_eq_true rfl) e2 m3 m4 hc rfl K
theorem b71_45 {r_0 : Nat} {o_1 : Option Value} {o_2 : Option Value} {r_3 : Nat} {y_4 : Int64} {o_5 : Option Value} {x_6 : Int32} {o_7 : Option Value} {x_8 : Int32} {sr_0 : Nat} {sx_1 : Int32} {fs1 : List Value} {P : ipQ} (e2 : h sr_0 = some (.inr (6, fs1))) (m3 : c ≤ MC) (m4 : s ≤ MS) (hc : call 61 [(.ref sr_0), (.int sx_1)] h z 0 0 P) (K : ∀ (o : Option Value) (h2 : HP) (z2 : Nat), P o h2 z2 → ip sc call 71 MC MS Q 48 [some (.ref r_0), o_1, o_2, some (.ref r_3), some (.long y_4), o_5, some (.int x_6), o_7, some (.int x_8)] (o.toList ++ []) h2 z2 c s) : ip sc call 71 MC MS Q 45 [some (.ref r_0), o_1, o_2, some (.ref r_3), some (.long y_4), o_5, some (.int x_6), o_7, some (.int x_8)] [(.int sx_1), (.ref sr_0)] h z c s := by
  exact jp_virt0 (pc2 := 48) (As := [(.int sx_1)]) (rest := []) rfl rfl rfl (Nat.le_of_ble_eq_true rfl) e2 m3 m4 hc rfl K
theorem b71_48 {r_0 : Nat} {o_1 : Option Value} {o_2 : Option Value} {r_3 : Nat} {y_4 : Int64} {o_5 : Option Value} {x_6 : Int32} {o_7 : Option Value} {x_8 : Int32}  (K1 : x_8 = 0 → ip sc call 71 MC MS Q 57 [some (.ref r_0), o_1, o_2, some (.ref r_3), some (.long y_4), o_5, some (.int x_6), o_7, some (.int x_8)] [] h z c s) (K2 : ¬ (x_8 = 0) → ip sc call 71 MC MS Q 53 [some (.ref r_0), o_1, o_2, some (.ref r_3), some (.long y_4), o_5, some (.int x_6), o_7, some (.int x_8)] [] h z c s) : ip sc call 71 MC MS Q 48 [some (.ref r_0), o_1, o_2, some (.ref r_3), some (.long y_4), o_5, some (.int x_6), o_7, some (.int x_8)] [] h z c s := by
  refine jp_load (pc2 := 50) (n := 8) rfl rfl rfl rfl ?_
  exact jp_if0 (pc2 := 53) rfl rfl K1 K2
theorem b71_53 {r_0 : Nat} {o_1 : Option Value} {o_2 : Option Value} {r_3 : Nat} {y_4 : Int64} {o_5 : Option Value} {x_6 : Int32} {o_7 : Option Value} {x_8 : Int32} {fs1 : List Value} {P : ipQ} (e2 : h r_3 = some (.inr (6, fs1))) (m3 : c ≤ MC) (m4 : s ≤ MS) (hc : call 62 [(.ref r_3)] h z 0 0 P) (K : ∀ (o : Option Value) (h2 : HP) (z2 : Nat), P o h2 z2 → ip sc call 71 MC MS Q 57 [some (.ref r_0), o_1, o_2, some (.ref r_3), some (.long y_4), o_5, some (.int x_6), o_7, some (.int x_8)] (o.toList ++ []) h2 z2 c s) : ip sc call 71 MC MS Q 53 [some (.ref r_0), o_1, o_2, some (.ref r_3), some (.long y_4), o_5, some (.int x_6), o_7, some (.int x_8)] [] h z c s := by
  refine jp_load (pc2 := 54) (n := 3) rfl rfl rfl rfl ?_
  exact jp_virt0 (pc2 := 57) (As := []) (rest := []) rfl rfl rfl (Nat.le_of_ble_eq_true rfl) e2 m3 m4 hc rfl K
theorem b71_57 {r_0 : Nat} {o_1 : Option Value} {o_2 : Option Value} {r_3 : Nat} {y_4 : Int64} {o_5 : Option Value} {x_6 : Int32} {o_7 : Option Value} {x_8 : Int32}  (K1 : ¬ x_8 = 2 → ip sc call 71 MC MS Q 67 [some (.ref r_0), o_1, o_2, some (.ref r_3), some (.long y_4), o_5, some (.int x_6), o_7, some (.int x_8)] [] h z c s) (K2 : ¬ (¬ x_8 = 2) → ip sc call 71 MC MS Q 63 [some (.ref r_0), o_1, o_2, some (.ref r_3), some (.long y_4), o_5, some (.int x_6), o_7, some (.int x_8)] [] h z c s) : ip sc call 71 MC MS Q 57 [some (.ref r_0), o_1, o_2, some (.ref r_3), some (.long y_4), o_5, some (.int x_6), o_7, some (.int x_8)] [] h z c s := by
  refine jp_load (pc2 := 59) (n := 8) rfl rfl rfl rfl ?_
  refine jp_con (pc2 := 60) (v := .int 2) rfl rfl rfl ?_
  exact jp_icmp (pc2 := 63) rfl rfl K1 K2
theorem b71_63 {r_0 : Nat} {o_1 : Option Value} {o_2 : Option Value} {r_3 : Nat} {y_4 : Int64} {o_5 : Option Value} {x_6 : Int32} {o_7 : Option Value} {o_8 : Option Value} {fs1 : List Value} {P : ipQ} (e2 : h r_3 = some (.inr (6, fs1))) (m3 : c ≤ MC) (m4 : s ≤ MS) (hc : call 63 [(.ref r_3)] h z 0 0 P) (K : ∀ (o : Option Value) (h2 : HP) (z2 : Nat), P o h2 z2 → ip sc call 71 MC MS Q 67 [some (.ref r_0), o_1, o_2, some (.ref r_3), some (.long y_4), o_5, some (.int x_6), o_7, o_8] (o.toList ++ []) h2 z2 c s) : ip sc call 71 MC MS Q 63 [some (.ref r_0), o_1, o_2, some (.ref r_3), some (.long y_4), o_5, some (.int x_6), o_7, o_8] [] h z c s := by
  refine jp_load (pc2 := 64) (n := 3) rfl rfl rfl rfl ?_
  exact jp_virt0 (pc2 := 67) (As := []) (rest := []) rfl rfl rfl (Nat.le_of_ble_eq_true rfl) e2 m3 m4 hc rfl K
theorem b71_67 {r_0 : Nat} {o_1 : Option Value} {o_2 : Option Value} {r_3 : Nat} {y_4 : Int64} {o_5 : Option Value} {x_6 : Int32} {o_7 : Option Value} {o_8 : Option Value} (k1 : ip2 none = false) (K : ip sc call 71 MC MS Q 6 [some (.ref r_0), o_1, o_2, some (.ref r_3), some (.long ((y_4.toUInt64 >>> ((6 : Int32).toInt64.toUInt64 &&& Int64.toUInt64 63)).toInt64)), none, some (.int (x_6 + 1)), o_7, o_8] [] h z c s) : ip sc call 71 MC MS Q 67 [some (.ref r_0), o_1, o_2, some (.ref r_3), some (.long y_4), o_5, some (.int x_6), o_7, o_8] [] h z c s := by
  refine jp_load (pc2 := 69) (n := 4) rfl rfl rfl rfl ?_
  refine jp_con (pc2 := 71) (v := .int 6) rfl rfl rfl ?_
  refine jp_lsh (pc2 := 72) (v := (y_4.toUInt64 >>> ((6 : Int32).toInt64.toUInt64 &&& Int64.toUInt64 63)).toInt64) rfl rfl rfl ?_
  refine jp_store2 (pc2 := 74) (n := 4) rfl rfl ⟨rfl, rfl⟩ rfl (Nat.le_of_ble_eq_true rfl) ?_
  refine jp_iinc (pc2 := 77) (n := 6) (v := x_6 + 1) rfl rfl rfl rfl k1 ?_
  refine ip_goto rfl ?_
  exact K
theorem b71_80 {o_0 : Option Value} {o_1 : Option Value} {o_2 : Option Value} {o_3 : Option Value} {o_4 : Option Value} {o_5 : Option Value} {o_6 : Option Value} {o_7 : Option Value} {o_8 : Option Value} (q1 : Q none h z)  : ip sc call 71 MC MS Q 80 [o_0, o_1, o_2, o_3, o_4, o_5, o_6, o_7, o_8] [] h z c s := by
  exact ip_vret (st := []) rfl rfl q1
theorem b72_0 {r_0 : Nat} {x_1 : Int32} {r_2 : Nat} {o_3 : Option Value}  (K1 : x_1 < 4 → ip sc call 72 MC MS Q 22 [some (.ref r_0), some (.int x_1), some (.ref r_2), o_3] [] h z c s) (K2 : ¬ (x_1 < 4) → ip sc call 72 MC MS Q 5 [some (.ref r_0), some (.int x_1), some (.ref r_2), o_3] [] h z c s) : ip sc call 72 MC MS Q 0 [some (.ref r_0), some (.int x_1), some (.ref r_2), o_3] [] h z c s := by
  refine jp_load (pc2 := 1) (n := 1) rfl rfl rfl rfl ?_
  refine jp_con (pc2 := 2) (v := .int 4) rfl rfl rfl ?_
  exact jp_icmp (pc2 := 5) rfl rfl K1 K2
theorem b72_5 {r_0 : Nat} {x_1 : Int32} {r_2 : Nat} {o_3 : Option Value} {fs1 : List Value} {q_fs1_8 : Nat} {n4 : Nat} {f5 : Nat → Int32} (e2 : h r_0 = some (.inr (7, fs1))) (e3 : fs1[8]? = some (.ref q_fs1_8)) (e6 : h q_fs1_8 = some (.inl (0, n4, .inl f5))) (b7 : vp_in x_1 n4) (K1 : (f5 x_1.toNatClampNeg) = ((-1)) → ip sc call 72 MC MS Q 22 [some (.ref r_0), some (.int x_1), some (.ref r_2), o_3] [] h z c s) (K2 : ¬ ((f5 x_1.toNatClampNeg) = ((-1))) → ip sc call 72 MC MS Q 15 [some (.ref r_0), some (.int x_1), some (.ref r_2), o_3] [] h z c s) : ip sc call 72 MC MS Q 5 [some (.ref r_0), some (.int x_1), some (.ref r_2), o_3] [] h z c s := by
  refine jp_load (pc2 := 6) (n := 0) rfl rfl rfl rfl ?_
  refine jp_getf (pc2 := 9) rfl rfl e2 e3 ?_
  refine jp_load (pc2 := 10) (n := 1) rfl rfl rfl rfl ?_
  refine jp_iald (pc2 := 11) rfl rfl e6 b7 ?_
  refine jp_con (pc2 := 12) (v := .int (-1)) rfl rfl rfl ?_
  exact jp_icmp (pc2 := 15) rfl rfl K1 K2
theorem b72_15 {r_0 : Nat} {x_1 : Int32} {o_2 : Option Value} {o_3 : Option Value} {fs1 : List Value} {q_fs1_8 : Nat} {n4 : Nat} {f5 : Nat → Int32} (e2 : h r_0 = some (.inr (7, fs1))) (e3 : fs1[8]? = some (.ref q_fs1_8)) (e6 : h q_fs1_8 = some (.inl (0, n4, .inl f5))) (b7 : vp_in x_1 n4) (q8 : Q (some (.int (f5 x_1.toNatClampNeg))) h z)  : ip sc call 72 MC MS Q 15 [some (.ref r_0), some (.int x_1), o_2, o_3] [] h z c s := by
  refine jp_load (pc2 := 16) (n := 0) rfl rfl rfl rfl ?_
  refine jp_getf (pc2 := 19) rfl rfl e2 e3 ?_
  refine jp_load (pc2 := 20) (n := 1) rfl rfl rfl rfl ?_
  refine jp_iald (pc2 := 21) rfl rfl e6 b7 ?_
  exact ip_iret (st := []) rfl rfl rfl q8
theorem b72_22 {r_0 : Nat} {x_1 : Int32} {r_2 : Nat} {o_3 : Option Value} {fs1 : List Value} {v_fs1_8 : Int32} {fs4 : List Value} {q_fs4_8 : Nat} {n7 : Nat} {f8 : Nat → Int32} (e2 : h r_2 = some (.inr (6, fs1))) (e3 : fs1[8]? = some (.int v_fs1_8)) (e5 : h r_0 = some (.inr (7, fs4))) (e6 : fs4[8]? = some (.ref q_fs4_8)) (e9 : h q_fs4_8 = some (.inl (0, n7, .inl f8))) (b10 : vp_in x_1 n7) (K1 : ¬ x_1 = 1 → ip sc call 72 MC MS Q 44 [some (.ref r_0), some (.int x_1), some (.ref r_2), some (.int v_fs1_8)] [(.ref r_2)] (hup h q_fs4_8 (.inl (0, n7, .inl (upd f8 x_1.toNatClampNeg v_fs1_8)))) z c s) (K2 : ¬ (¬ x_1 = 1) → ip sc call 72 MC MS Q 40 [some (.ref r_0), some (.int x_1), some (.ref r_2), some (.int v_fs1_8)] [(.ref r_2)] (hup h q_fs4_8 (.inl (0, n7, .inl (upd f8 x_1.toNatClampNeg v_fs1_8)))) z c s) : ip sc call 72 MC MS Q 22 [some (.ref r_0), some (.int x_1), some (.ref r_2), o_3] [] h z c s := by
  refine jp_load (pc2 := 23) (n := 2) rfl rfl rfl rfl ?_
  refine jp_getf (pc2 := 26) rfl rfl e2 e3 ?_
  refine jp_store (pc2 := 27) (n := 3) rfl rfl ⟨rfl, rfl⟩ rfl (Nat.le_of_ble_eq_true rfl) ?_
  refine jp_load (pc2 := 28) (n := 0) rfl rfl rfl rfl ?_
  refine jp_getf (pc2 := 31) rfl rfl e5 e6 ?_
  refine jp_load (pc2 := 32) (n := 1) rfl rfl rfl rfl ?_
  refine jp_load (pc2 := 33) (n := 3) rfl rfl rfl rfl ?_
  refine jp_iast (pc2 := 34) rfl rfl e9 b10 ?_
  refine jp_load (pc2 := 35) (n := 2) rfl rfl rfl rfl ?_
  refine jp_load (pc2 := 36) (n := 1) rfl rfl rfl rfl ?_
  refine jp_con (pc2 := 37) (v := .int 1) rfl rfl rfl ?_
  exact jp_icmp (pc2 := 40) rfl rfl K1 K2
theorem b72_40 {o_0 : Option Value} {o_1 : Option Value} {o_2 : Option Value} {x_3 : Int32} {sr_0 : Nat}  (K : ip sc call 72 MC MS Q 54 [o_0, o_1, o_2, some (.int x_3)] [(.int 3), (.ref sr_0)] h z c s) : ip sc call 72 MC MS Q 40 [o_0, o_1, o_2, some (.int x_3)] [(.ref sr_0)] h z c s := by
  refine jp_con (pc2 := 41) (v := .int 3) rfl rfl rfl ?_
  refine ip_goto rfl ?_
  exact K
theorem b72_44 {o_0 : Option Value} {x_1 : Int32} {o_2 : Option Value} {x_3 : Int32} {sr_0 : Nat}  (K1 : ¬ x_1 = 2 → ip sc call 72 MC MS Q 53 [o_0, some (.int x_1), o_2, some (.int x_3)] [(.ref sr_0)] h z c s) (K2 : ¬ (¬ x_1 = 2) → ip sc call 72 MC MS Q 49 [o_0, some (.int x_1), o_2, some (.int x_3)] [(.ref sr_0)] h z c s) : ip sc call 72 MC MS Q 44 [o_0, some (.int x_1), o_2, some (.int x_3)] [(.ref sr_0)] h z c s := by
  refine jp_load (pc2 := 45) (n := 1) rfl rfl rfl rfl ?_
  refine jp_con (pc2 := 46) (v := .int 2) rfl rfl rfl ?_
  exact jp_icmp (pc2 := 49) rfl rfl K1 K2
theorem b72_49 {o_0 : Option Value} {o_1 : Option Value} {o_2 : Option Value} {x_3 : Int32} {sr_0 : Nat}  (K : ip sc call 72 MC MS Q 54 [o_0, o_1, o_2, some (.int x_3)] [(.int 2), (.ref sr_0)] h z c s) : ip sc call 72 MC MS Q 49 [o_0, o_1, o_2, some (.int x_3)] [(.ref sr_0)] h z c s := by
  refine jp_con (pc2 := 50) (v := .int 2) rfl rfl rfl ?_
  refine ip_goto rfl ?_
  exact K
theorem b72_53 {o_0 : Option Value} {o_1 : Option Value} {o_2 : Option Value} {x_3 : Int32} {sr_0 : Nat}  (K : ip sc call 72 MC MS Q 54 [o_0, o_1, o_2, some (.int x_3)] [(.int 1), (.ref sr_0)] h z c s) : ip sc call 72 MC MS Q 53 [o_0, o_1, o_2, some (.int x_3)] [(.ref sr_0)] h z c s := by
  refine jp_con (pc2 := 54) (v := .int 1) rfl rfl rfl ?_
  exact K
theorem b72_54 {o_0 : Option Value} {o_1 : Option Value} {o_2 : Option Value} {x_3 : Int32} {sr_0 : Nat} {sx_1 : Int32} {fs1 : List Value} {P : ipQ} (e2 : h sr_0 = some (.inr (6, fs1))) (m3 : c ≤ MC) (m4 : s ≤ MS) (hc : call 50 [(.ref sr_0), (.int sx_1)] h z 0 0 P) (K : ∀ (o : Option Value) (h2 : HP) (z2 : Nat), P o h2 z2 → ip sc call 72 MC MS Q 57 [o_0, o_1, o_2, some (.int x_3)] (o.toList ++ []) h2 z2 c s) : ip sc call 72 MC MS Q 54 [o_0, o_1, o_2, some (.int x_3)] [(.int sx_1), (.ref sr_0)] h z c s := by
  exact jp_virt0 (pc2 := 57) (As := [(.int sx_1)]) (rest := []) rfl rfl rfl (Nat.le_of_ble_eq_true rfl) e2 m3 m4 hc rfl K
theorem b72_57 {o_0 : Option Value} {o_1 : Option Value} {o_2 : Option Value} {x_3 : Int32} (q1 : Q (some (.int x_3)) h z)  : ip sc call 72 MC MS Q 57 [o_0, o_1, o_2, some (.int x_3)] [] h z c s := by
  refine jp_load (pc2 := 58) (n := 3) rfl rfl rfl rfl ?_
  exact ip_iret (st := []) rfl rfl rfl q1
end BLK
