/-! straight stretches of bytecode, printed by wip/whole/gen_blk.py -/
section BLK
variable {sc : ipSc} {call : ipCall} {MC MS : Nat} {Q : ipQ} {h : HP} {z c s : Nat}
theorem b91_0g {r_0 : Nat} {fs3 : List Value} {P : ipQ} {mc ms : Nat} (m1 : c + 1 ≤ MC) (m2 : s + 52000 ≤ MS) (e4 : h r_0 = some (.inr (9, fs3))) (n5 : r_0 ≠ z) (l6 : fs3.length = 16) (m7 : c + 1 + 1 ≤ MC) (m8 : s + 52000 + 4 ≤ MS) (n9 : r_0 ≠ z + 1) (m10 : c + 1 + 1 + 1 ≤ MC) (m11 : s + 52000 + 4 + 2359296 ≤ MS) (n12 : r_0 ≠ z + 1 + 1) (m13 : c + 1 + 1 + 1 + 1 ≤ MC) (m14 : s + 52000 + 4 + 2359296 + 32768 ≤ MS) (n15 : r_0 ≠ z + 1 + 1 + 1) (m16 : c + 1 + 1 + 1 + 1 + 1 ≤ MC) (m17 : s + 52000 + 4 + 2359296 + 32768 + 32768 ≤ MS) (n18 : r_0 ≠ z + 1 + 1 + 1 + 1) (m19 : c + 1 + 1 + 1 + 1 + 1 + 1 ≤ MC) (m20 : s + 52000 + 4 + 2359296 + 32768 + 32768 + 32 ≤ MS) (n21 : r_0 ≠ z + 1 + 1 + 1 + 1 + 1) (m22 : c + 1 + 1 + 1 + 1 + 1 + 1 + 1 ≤ MC) (m23 : s + 52000 + 4 + 2359296 + 32768 + 32768 + 32 + 32 ≤ MS) (n24 : r_0 ≠ z + 1 + 1 + 1 + 1 + 1 + 1) (m25 : c + 1 + 1 + 1 + 1 + 1 + 1 + 1 + 1 ≤ MC) (m26 : s + 52000 + 4 + 2359296 + 32768 + 32768 + 32 + 32 + 72 ≤ MS) (n27 : r_0 ≠ z + 1 + 1 + 1 + 1 + 1 + 1 + 1) (m28 : c + 1 + 1 + 1 + 1 + 1 + 1 + 1 + 1 + mc ≤ MC) (m29 : s + 52000 + 4 + 2359296 + 32768 + 32768 + 32 + 32 + 72 + ms ≤ MS) (hc : call 92 [(.ref r_0), (.int 2)] (hup (hup (hup (hup (hup (hup (hup (hup (hup (hup (hup (hup (hup (hup (hup (hup h z (.inl (0, 52000, .inl (fun _ => 0)))) r_0 (.inr (9, (fs3.set 0 (.ref z))))) (z + 1) (.inl (3, 4, .inl (fun _ => 0)))) r_0 (.inr (9, ((fs3.set 0 (.ref z)).set 1 (.ref (z + 1)))))) (z + 1 + 1) (.inl (2, 2359296, .inl (fun _ => 0)))) r_0 (.inr (9, (((fs3.set 0 (.ref z)).set 1 (.ref (z + 1))).set 2 (.ref (z + 1 + 1)))))) (z + 1 + 1 + 1) (.inl (0, 32768, .inl (fun _ => 0)))) r_0 (.inr (9, ((((fs3.set 0 (.ref z)).set 1 (.ref (z + 1))).set 2 (.ref (z + 1 + 1))).set 3 (.ref (z + 1 + 1 + 1)))))) (z + 1 + 1 + 1 + 1) (.inl (2, 32768, .inl (fun _ => 0)))) r_0 (.inr (9, (((((fs3.set 0 (.ref z)).set 1 (.ref (z + 1))).set 2 (.ref (z + 1 + 1))).set 3 (.ref (z + 1 + 1 + 1))).set 4 (.ref (z + 1 + 1 + 1 + 1)))))) (z + 1 + 1 + 1 + 1 + 1) (.inl (0, 32, .inl (fun _ => 0)))) r_0 (.inr (9, ((((((fs3.set 0 (.ref z)).set 1 (.ref (z + 1))).set 2 (.ref (z + 1 + 1))).set 3 (.ref (z + 1 + 1 + 1))).set 4 (.ref (z + 1 + 1 + 1 + 1))).set 12 (.ref (z + 1 + 1 + 1 + 1 + 1)))))) (z + 1 + 1 + 1 + 1 + 1 + 1) (.inl (0, 32, .inl (fun _ => 0)))) r_0 (.inr (9, (((((((fs3.set 0 (.ref z)).set 1 (.ref (z + 1))).set 2 (.ref (z + 1 + 1))).set 3 (.ref (z + 1 + 1 + 1))).set 4 (.ref (z + 1 + 1 + 1 + 1))).set 12 (.ref (z + 1 + 1 + 1 + 1 + 1))).set 13 (.ref (z + 1 + 1 + 1 + 1 + 1 + 1)))))) (z + 1 + 1 + 1 + 1 + 1 + 1 + 1) (.inl (2, 72, .inl (fun _ => 0)))) r_0 (.inr (9, ((((((((fs3.set 0 (.ref z)).set 1 (.ref (z + 1))).set 2 (.ref (z + 1 + 1))).set 3 (.ref (z + 1 + 1 + 1))).set 4 (.ref (z + 1 + 1 + 1 + 1))).set 12 (.ref (z + 1 + 1 + 1 + 1 + 1))).set 13 (.ref (z + 1 + 1 + 1 + 1 + 1 + 1))).set 14 (.ref (z + 1 + 1 + 1 + 1 + 1 + 1 + 1)))))) (z + 1 + 1 + 1 + 1 + 1 + 1 + 1 + 1) mc ms P) (K : ∀ (o : Option Value) (h2 : HP) (z2 : Nat), P o h2 z2 → ip sc call 91 MC MS Q 72 [some (.ref r_0)] (o.toList ++ []) h2 z2 (c + 1 + 1 + 1 + 1 + 1 + 1 + 1 + 1 + mc) (s + 52000 + 4 + 2359296 + 32768 + 32768 + 32 + 32 + 72 + ms)) : ip sc call 91 MC MS Q 0 [some (.ref r_0)] [] h z c s := by
  refine jp_load (pc2 := 1) (n := 0) rfl rfl rfl rfl ?_
  refine jp_objinit (pc2 := 4) rfl rfl (Nat.le_of_ble_eq_true rfl) ?_
  refine jp_load (pc2 := 5) (n := 0) rfl rfl rfl rfl ?_
  refine jp_con (pc2 := 7) (v := .int 52000) rfl rfl rfl ?_
  refine jp_newa0 (pc2 := 9) (N := 52000) rfl rfl (by decide) (by decide) (by decide) m1 m2 ?_
  refine jp_putf (pc2 := 12) rfl rfl (hup_ne n5 e4) (ln_lt l6 (by decide)) ⟨rfl, rfl⟩ ?_
  refine jp_load (pc2 := 13) (n := 0) rfl rfl rfl rfl ?_
  refine jp_con (pc2 := 14) (v := .int 4) rfl rfl rfl ?_
  refine jp_newa3 (pc2 := 16) (N := 4) rfl rfl (by decide) (by decide) (by decide) m7 m8 ?_
  refine jp_putf (pc2 := 19) rfl rfl (hup_ne n9 hup_eq) (ls_lt (ln_lt l6 (by decide))) ⟨rfl, rfl⟩ ?_
  refine jp_load (pc2 := 20) (n := 0) rfl rfl rfl rfl ?_
  refine jp_con (pc2 := 22) (v := .int 2359296) rfl rfl rfl ?_
  refine jp_newa2 (pc2 := 24) (N := 2359296) rfl rfl (by decide) (by decide) (by decide) m10 m11 ?_
  refine jp_putf (pc2 := 27) rfl rfl (hup_ne n12 hup_eq) (ls_lt (ls_lt (ln_lt l6 (by decide)))) ⟨rfl, rfl⟩ ?_
  refine jp_load (pc2 := 28) (n := 0) rfl rfl rfl rfl ?_
  refine jp_con (pc2 := 30) (v := .int 32768) rfl rfl rfl ?_
  refine jp_newa0 (pc2 := 32) (N := 32768) rfl rfl (by decide) (by decide) (by decide) m13 m14 ?_
  refine jp_putf (pc2 := 35) rfl rfl (hup_ne n15 hup_eq) (ls_lt (ls_lt (ls_lt (ln_lt l6 (by decide))))) ⟨rfl, rfl⟩ ?_
  refine jp_load (pc2 := 36) (n := 0) rfl rfl rfl rfl ?_
  refine jp_con (pc2 := 38) (v := .int 32768) rfl rfl rfl ?_
  refine jp_newa2 (pc2 := 40) (N := 32768) rfl rfl (by decide) (by decide) (by decide) m16 m17 ?_
  refine jp_putf (pc2 := 43) rfl rfl (hup_ne n18 hup_eq) (ls_lt (ls_lt (ls_lt (ls_lt (ln_lt l6 (by decide)))))) ⟨rfl, rfl⟩ ?_
  refine jp_load (pc2 := 44) (n := 0) rfl rfl rfl rfl ?_
  refine jp_con (pc2 := 46) (v := .int 32) rfl rfl rfl ?_
  refine jp_newa0 (pc2 := 48) (N := 32) rfl rfl (by decide) (by decide) (by decide) m19 m20 ?_
  refine jp_putf (pc2 := 51) rfl rfl (hup_ne n21 hup_eq) (ls_lt (ls_lt (ls_lt (ls_lt (ls_lt (ln_lt l6 (by decide))))))) ⟨rfl, rfl⟩ ?_
  refine jp_load (pc2 := 52) (n := 0) rfl rfl rfl rfl ?_
  refine jp_con (pc2 := 54) (v := .int 32) rfl rfl rfl ?_
  refine jp_newa0 (pc2 := 56) (N := 32) rfl rfl (by decide) (by decide) (by decide) m22 m23 ?_
  refine jp_putf (pc2 := 59) rfl rfl (hup_ne n24 hup_eq) (ls_lt (ls_lt (ls_lt (ls_lt (ls_lt (ls_lt (ln_lt l6 (by decide)))))))) ⟨rfl, rfl⟩ ?_
  refine jp_load (pc2 := 60) (n := 0) rfl rfl rfl rfl ?_
  refine jp_con (pc2 := 62) (v := .int 72) rfl rfl rfl ?_
  refine jp_newa2 (pc2 := 64) (N := 72) rfl rfl (by decide) (by decide) (by decide) m25 m26 ?_
  refine jp_putf (pc2 := 67) rfl rfl (hup_ne n27 hup_eq) (ls_lt (ls_lt (ls_lt (ls_lt (ls_lt (ls_lt (ls_lt (ln_lt l6 (by decide))))))))) ⟨rfl, rfl⟩ ?_
  refine jp_load (pc2 := 68) (n := 0) rfl rfl rfl rfl ?_
  refine jp_con (pc2 := 69) (v := .int 2) rfl rfl rfl ?_
  exact jp_virt (pc2 := 72) (As := [(.int 2)]) (rest := []) rfl rfl rfl (Nat.le_of_ble_eq_true rfl) hup_eq m28 m29 hc rfl K
theorem b91_72 {o_0 : Option Value} (q1 : Q none h z)  : ip sc call 91 MC MS Q 72 [o_0] [] h z c s := by
  exact ip_vret (st := []) rfl rfl q1
theorem b92_0 {r_0 : Nat} {x_1 : Int32} {o_2 : Option Value} {o_3 : Option Value} {fs1 : List Value} {q_fs1_0 : Nat} {n4 : Nat} {f5 : Nat → Int32} {P : ipQ} (e2 : h r_0 = some (.inr (9, fs1))) (e3 : fs1[0]? = some (.ref q_fs1_0)) (e6 : h q_fs1_0 = some (.inl (0, n4, .inl f5))) (b7 : vp_in (0 : Int32) n4) (m8 : c ≤ MC) (m9 : s ≤ MS) (hc : call 93 [(.int 0)] (hup h q_fs1_0 (.inl (0, n4, .inl (upd f5 (0 : Int32).toNatClampNeg 0)))) z 0 0 P) (K : ∀ (o : Option Value) (h2 : HP) (z2 : Nat), P o h2 z2 → ip sc call 92 MC MS Q 11 [some (.ref r_0), some (.int x_1), o_2, o_3] (o.toList ++ []) h2 z2 c s) : ip sc call 92 MC MS Q 0 [some (.ref r_0), some (.int x_1), o_2, o_3] [] h z c s := by
  refine jp_load (pc2 := 1) (n := 0) rfl rfl rfl rfl ?_
  refine jp_getf (pc2 := 4) rfl rfl e2 e3 ?_
  refine jp_con (pc2 := 5) (v := .int 0) rfl rfl rfl ?_
  refine jp_con (pc2 := 6) (v := .int 0) rfl rfl rfl ?_
  refine jp_iast (pc2 := 7) rfl rfl e6 b7 ?_
  refine jp_con (pc2 := 8) (v := .int 0) rfl rfl rfl ?_
  exact jp_stat0 (pc2 := 11) (As := [(.int 0)]) (rest := []) rfl rfl rfl (Nat.le_of_ble_eq_true rfl) m8 m9 (by decide) hc rfl K
theorem b92_11 {r_0 : Nat} {x_1 : Int32} {o_2 : Option Value} {o_3 : Option Value} {sx_0 : Int32}  (K : ip sc call 92 MC MS Q 14 [some (.ref r_0), some (.int x_1), some (.int sx_0), some (.int 0)] [] h z c s) : ip sc call 92 MC MS Q 11 [some (.ref r_0), some (.int x_1), o_2, o_3] [(.int sx_0)] h z c s := by
  refine jp_store (pc2 := 12) (n := 2) rfl rfl ⟨rfl, rfl⟩ rfl (Nat.le_of_ble_eq_true rfl) ?_
  refine jp_con (pc2 := 13) (v := .int 0) rfl rfl rfl ?_
  refine jp_store (pc2 := 14) (n := 3) rfl rfl ⟨rfl, rfl⟩ rfl (Nat.le_of_ble_eq_true rfl) ?_
  exact K
theorem b92_14 {r_0 : Nat} {x_1 : Int32} {x_2 : Int32} {x_3 : Int32}  (K1 : (332 : Int32) ≤ x_3 → ip sc call 92 MC MS Q 36 [some (.ref r_0), some (.int x_1), some (.int x_2), some (.int x_3)] [] h z c s) (K2 : ¬ ((332 : Int32) ≤ x_3) → ip sc call 92 MC MS Q 21 [some (.ref r_0), some (.int x_1), some (.int x_2), some (.int x_3)] [] h z c s) : ip sc call 92 MC MS Q 14 [some (.ref r_0), some (.int x_1), some (.int x_2), some (.int x_3)] [] h z c s := by
  refine jp_load (pc2 := 15) (n := 3) rfl rfl rfl rfl ?_
  refine jp_con (pc2 := 18) (v := .int 332) rfl rfl rfl ?_
  exact jp_icmp (pc2 := 21) rfl rfl K1 K2
theorem b92_21 {r_0 : Nat} {x_1 : Int32} {x_2 : Int32} {x_3 : Int32} {fs1 : List Value} {q_fs1_0 : Nat} {n4 : Nat} {f5 : Nat → Int32} (e2 : h r_0 = some (.inr (9, fs1))) (e3 : fs1[0]? = some (.ref q_fs1_0)) (e6 : h q_fs1_0 = some (.inl (0, n4, .inl f5))) (b7 : vp_in (x_2 + x_3) n4) (K : ip sc call 92 MC MS Q 14 [some (.ref r_0), some (.int x_1), some (.int x_2), some (.int (x_3 + 1))] [] (hup h q_fs1_0 (.inl (0, n4, .inl (upd f5 (x_2 + x_3).toNatClampNeg 0)))) z c s) : ip sc call 92 MC MS Q 21 [some (.ref r_0), some (.int x_1), some (.int x_2), some (.int x_3)] [] h z c s := by
  refine jp_load (pc2 := 22) (n := 0) rfl rfl rfl rfl ?_
  refine jp_getf (pc2 := 25) rfl rfl e2 e3 ?_
  refine jp_load (pc2 := 26) (n := 2) rfl rfl rfl rfl ?_
  refine jp_load (pc2 := 27) (n := 3) rfl rfl rfl rfl ?_
  refine jp_bin (pc2 := 28) (v := x_2 + x_3) rfl rfl rfl ?_
  refine jp_con (pc2 := 29) (v := .int 0) rfl rfl rfl ?_
  refine jp_iast (pc2 := 30) rfl rfl e6 b7 ?_
  refine jp_iinc (pc2 := 33) (n := 3) (v := x_3 + 1) rfl rfl rfl rfl rfl ?_
  refine ip_goto rfl ?_
  exact K
theorem b92_36 {r_0 : Nat} {x_1 : Int32} {x_2 : Int32} {o_3 : Option Value} {fs1 : List Value} {q_fs1_0 : Nat} {n4 : Nat} {f5 : Nat → Int32} (e2 : h r_0 = some (.inr (9, fs1))) (e3 : fs1[0]? = some (.ref q_fs1_0)) (e6 : h q_fs1_0 = some (.inl (0, n4, .inl f5))) (b7 : vp_in (x_2 + 0) n4) (n8 : r_0 ≠ q_fs1_0) (b9 : vp_in (x_2 + 1) n4) (b10 : vp_in (x_2 + 2) n4) (b11 : vp_in (x_2 + 3) n4) (b12 : vp_in (x_2 + 36) n4) (K : ip sc call 92 MC MS Q 84 [some (.ref r_0), some (.int x_1), some (.int x_2), some (.int 0)] [] (hup (hup (hup (hup (hup h q_fs1_0 (.inl (0, n4, .inl (upd f5 (x_2 + 0).toNatClampNeg x_1)))) q_fs1_0 (.inl (0, n4, .inl (upd ((upd f5 (x_2 + 0).toNatClampNeg x_1)) (x_2 + 1).toNatClampNeg 1)))) q_fs1_0 (.inl (0, n4, .inl (upd ((upd ((upd f5 (x_2 + 0).toNatClampNeg x_1)) (x_2 + 1).toNatClampNeg 1)) (x_2 + 2).toNatClampNeg x_1)))) q_fs1_0 (.inl (0, n4, .inl (upd ((upd ((upd ((upd f5 (x_2 + 0).toNatClampNeg x_1)) (x_2 + 1).toNatClampNeg 1)) (x_2 + 2).toNatClampNeg x_1)) (x_2 + 3).toNatClampNeg x_1)))) q_fs1_0 (.inl (0, n4, .inl (upd ((upd ((upd ((upd ((upd f5 (x_2 + 0).toNatClampNeg x_1)) (x_2 + 1).toNatClampNeg 1)) (x_2 + 2).toNatClampNeg x_1)) (x_2 + 3).toNatClampNeg x_1)) (x_2 + 36).toNatClampNeg x_1)))) z c s) : ip sc call 92 MC MS Q 36 [some (.ref r_0), some (.int x_1), some (.int x_2), o_3] [] h z c s := by
  refine jp_load (pc2 := 37) (n := 0) rfl rfl rfl rfl ?_
  refine jp_getf (pc2 := 40) rfl rfl e2 e3 ?_
  refine jp_load (pc2 := 41) (n := 2) rfl rfl rfl rfl ?_
  refine jp_con (pc2 := 42) (v := .int 0) rfl rfl rfl ?_
  refine jp_bin (pc2 := 43) (v := x_2 + 0) rfl rfl rfl ?_
  refine jp_load (pc2 := 44) (n := 1) rfl rfl rfl rfl ?_
  refine jp_iast (pc2 := 45) rfl rfl e6 b7 ?_
  refine jp_load (pc2 := 46) (n := 0) rfl rfl rfl rfl ?_
  refine jp_getf (pc2 := 49) rfl rfl (hup_ne n8 e2) e3 ?_
  refine jp_load (pc2 := 50) (n := 2) rfl rfl rfl rfl ?_
  refine jp_con (pc2 := 51) (v := .int 1) rfl rfl rfl ?_
  refine jp_bin (pc2 := 52) (v := x_2 + 1) rfl rfl rfl ?_
  refine jp_con (pc2 := 53) (v := .int 1) rfl rfl rfl ?_
  refine jp_iast (pc2 := 54) rfl rfl hup_eq b9 ?_
  refine jp_load (pc2 := 55) (n := 0) rfl rfl rfl rfl ?_
  refine jp_getf (pc2 := 58) rfl rfl (hup_ne n8 (hup_ne n8 e2)) e3 ?_
  refine jp_load (pc2 := 59) (n := 2) rfl rfl rfl rfl ?_
  refine jp_con (pc2 := 60) (v := .int 2) rfl rfl rfl ?_
  refine jp_bin (pc2 := 61) (v := x_2 + 2) rfl rfl rfl ?_
  refine jp_load (pc2 := 62) (n := 1) rfl rfl rfl rfl ?_
  refine jp_iast (pc2 := 63) rfl rfl hup_eq b10 ?_
  refine jp_load (pc2 := 64) (n := 0) rfl rfl rfl rfl ?_
  refine jp_getf (pc2 := 67) rfl rfl (hup_ne n8 (hup_ne n8 (hup_ne n8 e2))) e3 ?_
  refine jp_load (pc2 := 68) (n := 2) rfl rfl rfl rfl ?_
  refine jp_con (pc2 := 69) (v := .int 3) rfl rfl rfl ?_
  refine jp_bin (pc2 := 70) (v := x_2 + 3) rfl rfl rfl ?_
  refine jp_load (pc2 := 71) (n := 1) rfl rfl rfl rfl ?_
  refine jp_iast (pc2 := 72) rfl rfl hup_eq b11 ?_
  refine jp_load (pc2 := 73) (n := 0) rfl rfl rfl rfl ?_
  refine jp_getf (pc2 := 76) rfl rfl (hup_ne n8 (hup_ne n8 (hup_ne n8 (hup_ne n8 e2)))) e3 ?_
  refine jp_load (pc2 := 77) (n := 2) rfl rfl rfl rfl ?_
  refine jp_con (pc2 := 79) (v := .int 36) rfl rfl rfl ?_
  refine jp_bin (pc2 := 80) (v := x_2 + 36) rfl rfl rfl ?_
  refine jp_load (pc2 := 81) (n := 1) rfl rfl rfl rfl ?_
  refine jp_iast (pc2 := 82) rfl rfl hup_eq b12 ?_
  refine jp_con (pc2 := 83) (v := .int 0) rfl rfl rfl ?_
  refine jp_store (pc2 := 84) (n := 3) rfl rfl ⟨rfl, rfl⟩ rfl (Nat.le_of_ble_eq_true rfl) ?_
  exact K
theorem b92_84 {r_0 : Nat} {x_1 : Int32} {x_2 : Int32} {x_3 : Int32}  (K1 : x_1 ≤ x_3 → ip sc call 92 MC MS Q 131 [some (.ref r_0), some (.int x_1), some (.int x_2), some (.int x_3)] [] h z c s) (K2 : ¬ (x_1 ≤ x_3) → ip sc call 92 MC MS Q 89 [some (.ref r_0), some (.int x_1), some (.int x_2), some (.int x_3)] [] h z c s) : ip sc call 92 MC MS Q 84 [some (.ref r_0), some (.int x_1), some (.int x_2), some (.int x_3)] [] h z c s := by
  refine jp_load (pc2 := 85) (n := 3) rfl rfl rfl rfl ?_
  refine jp_load (pc2 := 86) (n := 1) rfl rfl rfl rfl ?_
  exact jp_icmp (pc2 := 89) rfl rfl K1 K2
theorem b92_89 {r_0 : Nat} {x_1 : Int32} {x_2 : Int32} {x_3 : Int32} {fs1 : List Value} {q_fs1_0 : Nat} {n4 : Nat} {f5 : Nat → Int32} (e2 : h r_0 = some (.inr (9, fs1))) (e3 : fs1[0]? = some (.ref q_fs1_0)) (e6 : h q_fs1_0 = some (.inl (0, n4, .inl f5))) (b7 : vp_in ((x_2 + 4) + x_3) n4) (n8 : r_0 ≠ q_fs1_0) (b9 : vp_in ((x_2 + 68) + x_3) n4) (b10 : vp_in ((x_2 + 132) + x_3) n4) (K : ip sc call 92 MC MS Q 84 [some (.ref r_0), some (.int x_1), some (.int x_2), some (.int (x_3 + 1))] [] (hup (hup (hup h q_fs1_0 (.inl (0, n4, .inl (upd f5 ((x_2 + 4) + x_3).toNatClampNeg 3)))) q_fs1_0 (.inl (0, n4, .inl (upd ((upd f5 ((x_2 + 4) + x_3).toNatClampNeg 3)) ((x_2 + 68) + x_3).toNatClampNeg 1)))) q_fs1_0 (.inl (0, n4, .inl (upd ((upd ((upd f5 ((x_2 + 4) + x_3).toNatClampNeg 3)) ((x_2 + 68) + x_3).toNatClampNeg 1)) ((x_2 + 132) + x_3).toNatClampNeg x_3)))) z c s) : ip sc call 92 MC MS Q 89 [some (.ref r_0), some (.int x_1), some (.int x_2), some (.int x_3)] [] h z c s := by
  refine jp_load (pc2 := 90) (n := 0) rfl rfl rfl rfl ?_
  refine jp_getf (pc2 := 93) rfl rfl e2 e3 ?_
  refine jp_load (pc2 := 94) (n := 2) rfl rfl rfl rfl ?_
  refine jp_con (pc2 := 95) (v := .int 4) rfl rfl rfl ?_
  refine jp_bin (pc2 := 96) (v := x_2 + 4) rfl rfl rfl ?_
  refine jp_load (pc2 := 97) (n := 3) rfl rfl rfl rfl ?_
  refine jp_bin (pc2 := 98) (v := (x_2 + 4) + x_3) rfl rfl rfl ?_
  refine jp_con (pc2 := 99) (v := .int 3) rfl rfl rfl ?_
  refine jp_iast (pc2 := 100) rfl rfl e6 b7 ?_
  refine jp_load (pc2 := 101) (n := 0) rfl rfl rfl rfl ?_
  refine jp_getf (pc2 := 104) rfl rfl (hup_ne n8 e2) e3 ?_
  refine jp_load (pc2 := 105) (n := 2) rfl rfl rfl rfl ?_
  refine jp_con (pc2 := 107) (v := .int 68) rfl rfl rfl ?_
  refine jp_bin (pc2 := 108) (v := x_2 + 68) rfl rfl rfl ?_
  refine jp_load (pc2 := 109) (n := 3) rfl rfl rfl rfl ?_
  refine jp_bin (pc2 := 110) (v := (x_2 + 68) + x_3) rfl rfl rfl ?_
  refine jp_con (pc2 := 111) (v := .int 1) rfl rfl rfl ?_
  refine jp_iast (pc2 := 112) rfl rfl hup_eq b9 ?_
  refine jp_load (pc2 := 113) (n := 0) rfl rfl rfl rfl ?_
  refine jp_getf (pc2 := 116) rfl rfl (hup_ne n8 (hup_ne n8 e2)) e3 ?_
  refine jp_load (pc2 := 117) (n := 2) rfl rfl rfl rfl ?_
  refine jp_con (pc2 := 120) (v := .int 132) rfl rfl rfl ?_
  refine jp_bin (pc2 := 121) (v := x_2 + 132) rfl rfl rfl ?_
  refine jp_load (pc2 := 122) (n := 3) rfl rfl rfl rfl ?_
  refine jp_bin (pc2 := 123) (v := (x_2 + 132) + x_3) rfl rfl rfl ?_
  refine jp_load (pc2 := 124) (n := 3) rfl rfl rfl rfl ?_
  refine jp_iast (pc2 := 125) rfl rfl hup_eq b10 ?_
  refine jp_iinc (pc2 := 128) (n := 3) (v := x_3 + 1) rfl rfl rfl rfl rfl ?_
  refine ip_goto rfl ?_
  exact K
theorem b92_131 {o_0 : Option Value} {o_1 : Option Value} {o_2 : Option Value} {o_3 : Option Value} (q1 : Q none h z)  : ip sc call 92 MC MS Q 131 [o_0, o_1, o_2, o_3] [] h z c s := by
  exact ip_vret (st := []) rfl rfl q1
theorem b93_0 {x_0 : Int32} (q1 : Q (some (.int (4 + (332 * x_0)))) h z)  : ip sc call 93 MC MS Q 0 [some (.int x_0)] [] h z c s := by
  refine jp_con (pc2 := 1) (v := .int 4) rfl rfl rfl ?_
  refine jp_con (pc2 := 4) (v := .int 332) rfl rfl rfl ?_
  refine jp_load (pc2 := 5) (n := 0) rfl rfl rfl rfl ?_
  refine jp_bin (pc2 := 6) (v := 332 * x_0) rfl rfl rfl ?_
  refine jp_bin (pc2 := 7) (v := 4 + (332 * x_0)) rfl rfl rfl ?_
  exact ip_iret (st := []) rfl rfl rfl q1
theorem b94_0 {r_0 : Nat} {fs1 : List Value} {q_fs1_0 : Nat} {n4 : Nat} {f5 : Nat → Int32} {P : ipQ} (e2 : h r_0 = some (.inr (9, fs1))) (e3 : fs1[0]? = some (.ref q_fs1_0)) (e6 : h q_fs1_0 = some (.inl (0, n4, .inl f5))) (b7 : vp_in (0 : Int32) n4) (m8 : c ≤ MC) (m9 : s ≤ MS) (hc : call 93 [(.int (f5 (0 : Int32).toNatClampNeg))] h z 0 0 P) (K : ∀ (o : Option Value) (h2 : HP) (z2 : Nat), P o h2 z2 → ip sc call 94 MC MS Q 9 [some (.ref r_0)] (o.toList ++ []) h2 z2 c s) : ip sc call 94 MC MS Q 0 [some (.ref r_0)] [] h z c s := by
  refine jp_load (pc2 := 1) (n := 0) rfl rfl rfl rfl ?_
  refine jp_getf (pc2 := 4) rfl rfl e2 e3 ?_
  refine jp_con (pc2 := 5) (v := .int 0) rfl rfl rfl ?_
  refine jp_iald (pc2 := 6) rfl rfl e6 b7 ?_
  exact jp_stat0 (pc2 := 9) (As := [(.int (f5 (0 : Int32).toNatClampNeg))]) (rest := []) rfl rfl rfl (Nat.le_of_ble_eq_true rfl) m8 m9 (by decide) hc rfl K
theorem b94_9 {o_0 : Option Value} {sx_0 : Int32} (q1 : Q (some (.int sx_0)) h z)  : ip sc call 94 MC MS Q 9 [o_0] [(.int sx_0)] h z c s := by
  exact ip_iret (st := []) rfl rfl rfl q1
theorem b95_0 {x_0 : Int32} {x_1 : Int32}  (K1 : x_0 < 0 → ip sc call 95 MC MS Q 13 [some (.int x_0), some (.int x_1)] [] h z c s) (K2 : ¬ (x_0 < 0) → ip sc call 95 MC MS Q 4 [some (.int x_0), some (.int x_1)] [] h z c s) : ip sc call 95 MC MS Q 0 [some (.int x_0), some (.int x_1)] [] h z c s := by
  refine jp_load (pc2 := 1) (n := 0) rfl rfl rfl rfl ?_
  exact jp_if0 (pc2 := 4) rfl rfl K1 K2
theorem b95_4 {x_0 : Int32} {x_1 : Int32}  (K1 : x_1 ≤ x_0 → ip sc call 95 MC MS Q 13 [some (.int x_0), some (.int x_1)] [] h z c s) (K2 : ¬ (x_1 ≤ x_0) → ip sc call 95 MC MS Q 9 [some (.int x_0), some (.int x_1)] [] h z c s) : ip sc call 95 MC MS Q 4 [some (.int x_0), some (.int x_1)] [] h z c s := by
  refine jp_load (pc2 := 5) (n := 0) rfl rfl rfl rfl ?_
  refine jp_load (pc2 := 6) (n := 1) rfl rfl rfl rfl ?_
  exact jp_icmp (pc2 := 9) rfl rfl K1 K2
theorem b95_9 {o_0 : Option Value} {o_1 : Option Value}  (K : ip sc call 95 MC MS Q 14 [o_0, o_1] [(.int 1)] h z c s) : ip sc call 95 MC MS Q 9 [o_0, o_1] [] h z c s := by
  refine jp_con (pc2 := 10) (v := .int 1) rfl rfl rfl ?_
  refine ip_goto rfl ?_
  exact K
theorem b95_13 {o_0 : Option Value} {o_1 : Option Value}  (K : ip sc call 95 MC MS Q 14 [o_0, o_1] [(.int 0)] h z c s) : ip sc call 95 MC MS Q 13 [o_0, o_1] [] h z c s := by
  refine jp_con (pc2 := 14) (v := .int 0) rfl rfl rfl ?_
  exact K
theorem b95_14 {o_0 : Option Value} {o_1 : Option Value} {sx_0 : Int32} (t1 : narrow .boolean (.int sx_0) = .int sx_0) (q2 : Q (some (.int sx_0)) h z)  : ip sc call 95 MC MS Q 14 [o_0, o_1] [(.int sx_0)] h z c s := by
  exact ip_iret (st := []) rfl rfl t1 q2
theorem b96_0 {r_0 : Nat} {x_1 : Int32}  (K1 : x_1 < 1 → ip sc call 96 MC MS Q 11 [some (.ref r_0), some (.int x_1)] [] h z c s) (K2 : ¬ (x_1 < 1) → ip sc call 96 MC MS Q 5 [some (.ref r_0), some (.int x_1)] [] h z c s) : ip sc call 96 MC MS Q 0 [some (.ref r_0), some (.int x_1)] [] h z c s := by
  refine jp_load (pc2 := 1) (n := 1) rfl rfl rfl rfl ?_
  refine jp_con (pc2 := 2) (v := .int 1) rfl rfl rfl ?_
  exact jp_icmp (pc2 := 5) rfl rfl K1 K2
theorem b96_5 {r_0 : Nat} {x_1 : Int32}  (K1 : x_1 ≤ 8 → ip sc call 96 MC MS Q 13 [some (.ref r_0), some (.int x_1)] [] h z c s) (K2 : ¬ (x_1 ≤ 8) → ip sc call 96 MC MS Q 11 [some (.ref r_0), some (.int x_1)] [] h z c s) : ip sc call 96 MC MS Q 5 [some (.ref r_0), some (.int x_1)] [] h z c s := by
  refine jp_load (pc2 := 6) (n := 1) rfl rfl rfl rfl ?_
  refine jp_con (pc2 := 8) (v := .int 8) rfl rfl rfl ?_
  exact jp_icmp (pc2 := 11) rfl rfl K1 K2
theorem b96_11 {o_0 : Option Value} {o_1 : Option Value} (q1 : Q (some (.int 0)) h z)  : ip sc call 96 MC MS Q 11 [o_0, o_1] [] h z c s := by
  refine jp_con (pc2 := 12) (v := .int 0) rfl rfl rfl ?_
  exact ip_iret (st := []) rfl rfl rfl q1
theorem b96_13 {r_0 : Nat} {x_1 : Int32} {fs1 : List Value} {P : ipQ} (e2 : h r_0 = some (.inr (9, fs1))) (m3 : c ≤ MC) (m4 : s ≤ MS) (hc : call 92 [(.ref r_0), (.int x_1)] h z 0 0 P) (K : ∀ (o : Option Value) (h2 : HP) (z2 : Nat), P o h2 z2 → ip sc call 96 MC MS Q 18 [some (.ref r_0), some (.int x_1)] (o.toList ++ []) h2 z2 c s) : ip sc call 96 MC MS Q 13 [some (.ref r_0), some (.int x_1)] [] h z c s := by
  refine jp_load (pc2 := 14) (n := 0) rfl rfl rfl rfl ?_
  refine jp_load (pc2 := 15) (n := 1) rfl rfl rfl rfl ?_
  exact jp_virt0 (pc2 := 18) (As := [(.int x_1)]) (rest := []) rfl rfl rfl (Nat.le_of_ble_eq_true rfl) e2 m3 m4 hc rfl K
theorem b96_18 {o_0 : Option Value} {o_1 : Option Value} (q1 : Q (some (.int 1)) h z)  : ip sc call 96 MC MS Q 18 [o_0, o_1] [] h z c s := by
  refine jp_con (pc2 := 19) (v := .int 1) rfl rfl rfl ?_
  exact ip_iret (st := []) rfl rfl rfl q1
theorem b97_0 {r_0 : Nat} {x_1 : Int32} {x_2 : Int32} {o_3 : Option Value} {o_4 : Option Value}  (K : ip sc call 97 MC MS Q 5 [some (.ref r_0), some (.int x_1), some (.int x_2), some (.int 0), some (.int 0)] [] h z c s) : ip sc call 97 MC MS Q 0 [some (.ref r_0), some (.int x_1), some (.int x_2), o_3, o_4] [] h z c s := by
  refine jp_con (pc2 := 1) (v := .int 0) rfl rfl rfl ?_
  refine jp_store (pc2 := 2) (n := 3) rfl rfl ⟨rfl, rfl⟩ rfl (Nat.le_of_ble_eq_true rfl) ?_
  refine jp_con (pc2 := 3) (v := .int 0) rfl rfl rfl ?_
  refine jp_store (pc2 := 5) (n := 4) rfl rfl ⟨rfl, rfl⟩ rfl (Nat.le_of_ble_eq_true rfl) ?_
  exact K
theorem b97_5 {r_0 : Nat} {x_1 : Int32} {x_2 : Int32} {x_3 : Int32} {x_4 : Int32}  (K1 : x_2 ≤ x_4 → ip sc call 97 MC MS Q 32 [some (.ref r_0), some (.int x_1), some (.int x_2), some (.int x_3), some (.int x_4)] [] h z c s) (K2 : ¬ (x_2 ≤ x_4) → ip sc call 97 MC MS Q 11 [some (.ref r_0), some (.int x_1), some (.int x_2), some (.int x_3), some (.int x_4)] [] h z c s) : ip sc call 97 MC MS Q 5 [some (.ref r_0), some (.int x_1), some (.int x_2), some (.int x_3), some (.int x_4)] [] h z c s := by
  refine jp_load (pc2 := 7) (n := 4) rfl rfl rfl rfl ?_
  refine jp_load (pc2 := 8) (n := 2) rfl rfl rfl rfl ?_
  exact jp_icmp (pc2 := 11) rfl rfl K1 K2
theorem b97_11 {r_0 : Nat} {x_1 : Int32} {x_2 : Int32} {x_3 : Int32} {x_4 : Int32} {fs1 : List Value} {q_fs1_0 : Nat} {n4 : Nat} {f5 : Nat → Int32} (e2 : h r_0 = some (.inr (9, fs1))) (e3 : fs1[0]? = some (.ref q_fs1_0)) (e6 : h q_fs1_0 = some (.inl (0, n4, .inl f5))) (b7 : vp_in ((x_1 + 36) + x_4) n4) (K : ip sc call 97 MC MS Q 5 [some (.ref r_0), some (.int x_1), some (.int x_2), some (.int (x_3 + (f5 ((x_1 + 36) + x_4).toNatClampNeg))), some (.int (x_4 + 1))] [] h z c s) : ip sc call 97 MC MS Q 11 [some (.ref r_0), some (.int x_1), some (.int x_2), some (.int x_3), some (.int x_4)] [] h z c s := by
  refine jp_load (pc2 := 12) (n := 3) rfl rfl rfl rfl ?_
  refine jp_load (pc2 := 13) (n := 0) rfl rfl rfl rfl ?_
  refine jp_getf (pc2 := 16) rfl rfl e2 e3 ?_
  refine jp_load (pc2 := 17) (n := 1) rfl rfl rfl rfl ?_
  refine jp_con (pc2 := 19) (v := .int 36) rfl rfl rfl ?_
  refine jp_bin (pc2 := 20) (v := x_1 + 36) rfl rfl rfl ?_
  refine jp_load (pc2 := 22) (n := 4) rfl rfl rfl rfl ?_
  refine jp_bin (pc2 := 23) (v := (x_1 + 36) + x_4) rfl rfl rfl ?_
  refine jp_iald (pc2 := 24) rfl rfl e6 b7 ?_
  refine jp_bin (pc2 := 25) (v := x_3 + (f5 ((x_1 + 36) + x_4).toNatClampNeg)) rfl rfl rfl ?_
  refine jp_store (pc2 := 26) (n := 3) rfl rfl ⟨rfl, rfl⟩ rfl (Nat.le_of_ble_eq_true rfl) ?_
  refine jp_iinc (pc2 := 29) (n := 4) (v := x_4 + 1) rfl rfl rfl rfl rfl ?_
  refine ip_goto rfl ?_
  exact K
theorem b97_32 {o_0 : Option Value} {o_1 : Option Value} {o_2 : Option Value} {x_3 : Int32} {o_4 : Option Value} (q1 : Q (some (.int x_3)) h z)  : ip sc call 97 MC MS Q 32 [o_0, o_1, o_2, some (.int x_3), o_4] [] h z c s := by
  refine jp_load (pc2 := 33) (n := 3) rfl rfl rfl rfl ?_
  exact ip_iret (st := []) rfl rfl rfl q1
theorem b98_0 {r_0 : Nat} {x_1 : Int32} {x_2 : Int32} {o_3 : Option Value} {o_4 : Option Value}  (K : ip sc call 98 MC MS Q 9 [some (.ref r_0), some (.int x_1), some (.int x_2), some (.int (x_1 + 132)), some (.int 0)] [] h z c s) : ip sc call 98 MC MS Q 0 [some (.ref r_0), some (.int x_1), some (.int x_2), o_3, o_4] [] h z c s := by
  refine jp_load (pc2 := 1) (n := 1) rfl rfl rfl rfl ?_
  refine jp_con (pc2 := 4) (v := .int 132) rfl rfl rfl ?_
  refine jp_bin (pc2 := 5) (v := x_1 + 132) rfl rfl rfl ?_
  refine jp_store (pc2 := 6) (n := 3) rfl rfl ⟨rfl, rfl⟩ rfl (Nat.le_of_ble_eq_true rfl) ?_
  refine jp_con (pc2 := 7) (v := .int 0) rfl rfl rfl ?_
  refine jp_store (pc2 := 9) (n := 4) rfl rfl ⟨rfl, rfl⟩ rfl (Nat.le_of_ble_eq_true rfl) ?_
  exact K
theorem b98_9 {r_0 : Nat} {x_1 : Int32} {x_2 : Int32} {x_3 : Int32} {x_4 : Int32}  (K1 : x_2 ≤ x_4 → ip sc call 98 MC MS Q 36 [some (.ref r_0), some (.int x_1), some (.int x_2), some (.int x_3), some (.int x_4)] [] h z c s) (K2 : ¬ (x_2 ≤ x_4) → ip sc call 98 MC MS Q 15 [some (.ref r_0), some (.int x_1), some (.int x_2), some (.int x_3), some (.int x_4)] [] h z c s) : ip sc call 98 MC MS Q 9 [some (.ref r_0), some (.int x_1), some (.int x_2), some (.int x_3), some (.int x_4)] [] h z c s := by
  refine jp_load (pc2 := 11) (n := 4) rfl rfl rfl rfl ?_
  refine jp_load (pc2 := 12) (n := 2) rfl rfl rfl rfl ?_
  exact jp_icmp (pc2 := 15) rfl rfl K1 K2
theorem b98_15 {r_0 : Nat} {x_1 : Int32} {x_2 : Int32} {x_3 : Int32} {x_4 : Int32} {fs1 : List Value} {q_fs1_0 : Nat} {n4 : Nat} {f5 : Nat → Int32} (e2 : h r_0 = some (.inr (9, fs1))) (e3 : fs1[0]? = some (.ref q_fs1_0)) (e6 : h q_fs1_0 = some (.inl (0, n4, .inl f5))) (b7 : vp_in ((x_1 + 68) + x_4) n4) (K : ip sc call 98 MC MS Q 9 [some (.ref r_0), some (.int x_1), some (.int x_2), some (.int (x_3 + (f5 ((x_1 + 68) + x_4).toNatClampNeg))), some (.int (x_4 + 1))] [] h z c s) : ip sc call 98 MC MS Q 15 [some (.ref r_0), some (.int x_1), some (.int x_2), some (.int x_3), some (.int x_4)] [] h z c s := by
  refine jp_load (pc2 := 16) (n := 3) rfl rfl rfl rfl ?_
  refine jp_load (pc2 := 17) (n := 0) rfl rfl rfl rfl ?_
  refine jp_getf (pc2 := 20) rfl rfl e2 e3 ?_
  refine jp_load (pc2 := 21) (n := 1) rfl rfl rfl rfl ?_
  refine jp_con (pc2 := 23) (v := .int 68) rfl rfl rfl ?_
  refine jp_bin (pc2 := 24) (v := x_1 + 68) rfl rfl rfl ?_
  refine jp_load (pc2 := 26) (n := 4) rfl rfl rfl rfl ?_
  refine jp_bin (pc2 := 27) (v := (x_1 + 68) + x_4) rfl rfl rfl ?_
  refine jp_iald (pc2 := 28) rfl rfl e6 b7 ?_
  refine jp_bin (pc2 := 29) (v := x_3 + (f5 ((x_1 + 68) + x_4).toNatClampNeg)) rfl rfl rfl ?_
  refine jp_store (pc2 := 30) (n := 3) rfl rfl ⟨rfl, rfl⟩ rfl (Nat.le_of_ble_eq_true rfl) ?_
  refine jp_iinc (pc2 := 33) (n := 4) (v := x_4 + 1) rfl rfl rfl rfl rfl ?_
  refine ip_goto rfl ?_
  exact K
theorem b98_36 {o_0 : Option Value} {o_1 : Option Value} {o_2 : Option Value} {x_3 : Int32} {o_4 : Option Value} (q1 : Q (some (.int x_3)) h z)  : ip sc call 98 MC MS Q 36 [o_0, o_1, o_2, some (.int x_3), o_4] [] h z c s := by
  refine jp_load (pc2 := 37) (n := 3) rfl rfl rfl rfl ?_
  exact ip_iret (st := []) rfl rfl rfl q1
theorem b99_0 {r_0 : Nat} {x_1 : Int32} {fs1 : List Value} {q_fs1_0 : Nat} {n4 : Nat} {f5 : Nat → Int32} (e2 : h r_0 = some (.inr (9, fs1))) (e3 : fs1[0]? = some (.ref q_fs1_0)) (e6 : h q_fs1_0 = some (.inl (0, n4, .inl f5))) (b7 : vp_in (x_1 + 2) n4) (b8 : vp_in ((x_1 + 68) + (f5 (x_1 + 2).toNatClampNeg)) n4) (n9 : r_0 ≠ q_fs1_0) (b10 : vp_in (x_1 + 1) n4) (b11 : vp_in (((x_1 + 36) + (((upd ((upd f5 ((x_1 + 68) + (f5 (x_1 + 2).toNatClampNeg)).toNatClampNeg 0)) (x_1 + 2).toNatClampNeg ((((upd f5 ((x_1 + 68) + (f5 (x_1 + 2).toNatClampNeg)).toNatClampNeg 0)) (x_1 + 2).toNatClampNeg) + 1))) (x_1 + 1).toNatClampNeg)) - 1) n4) (q12 : Q none (hup (hup (hup h q_fs1_0 (.inl (0, n4, .inl (upd f5 ((x_1 + 68) + (f5 (x_1 + 2).toNatClampNeg)).toNatClampNeg 0)))) q_fs1_0 (.inl (0, n4, .inl (upd ((upd f5 ((x_1 + 68) + (f5 (x_1 + 2).toNatClampNeg)).toNatClampNeg 0)) (x_1 + 2).toNatClampNeg ((((upd f5 ((x_1 + 68) + (f5 (x_1 + 2).toNatClampNeg)).toNatClampNeg 0)) (x_1 + 2).toNatClampNeg) + 1))))) q_fs1_0 (.inl (0, n4, .inl (upd ((upd ((upd f5 ((x_1 + 68) + (f5 (x_1 + 2).toNatClampNeg)).toNatClampNeg 0)) (x_1 + 2).toNatClampNeg ((((upd f5 ((x_1 + 68) + (f5 (x_1 + 2).toNatClampNeg)).toNatClampNeg 0)) (x_1 + 2).toNatClampNeg) + 1))) (((x_1 + 36) + (((upd ((upd f5 ((x_1 + 68) + (f5 (x_1 + 2).toNatClampNeg)).toNatClampNeg 0)) (x_1 + 2).toNatClampNeg ((((upd f5 ((x_1 + 68) + (f5 (x_1 + 2).toNatClampNeg)).toNatClampNeg 0)) (x_1 + 2).toNatClampNeg) + 1))) (x_1 + 1).toNatClampNeg)) - 1).toNatClampNeg ((((upd ((upd f5 ((x_1 + 68) + (f5 (x_1 + 2).toNatClampNeg)).toNatClampNeg 0)) (x_1 + 2).toNatClampNeg ((((upd f5 ((x_1 + 68) + (f5 (x_1 + 2).toNatClampNeg)).toNatClampNeg 0)) (x_1 + 2).toNatClampNeg) + 1))) (((x_1 + 36) + (((upd ((upd f5 ((x_1 + 68) + (f5 (x_1 + 2).toNatClampNeg)).toNatClampNeg 0)) (x_1 + 2).toNatClampNeg ((((upd f5 ((x_1 + 68) + (f5 (x_1 + 2).toNatClampNeg)).toNatClampNeg 0)) (x_1 + 2).toNatClampNeg) + 1))) (x_1 + 1).toNatClampNeg)) - 1).toNatClampNeg) + 1))))) z)  : ip sc call 99 MC MS Q 0 [some (.ref r_0), some (.int x_1)] [] h z c s := by
  refine jp_load (pc2 := 1) (n := 0) rfl rfl rfl rfl ?_
  refine jp_getf (pc2 := 4) rfl rfl e2 e3 ?_
  refine jp_load (pc2 := 5) (n := 1) rfl rfl rfl rfl ?_
  refine jp_con (pc2 := 7) (v := .int 68) rfl rfl rfl ?_
  refine jp_bin (pc2 := 8) (v := x_1 + 68) rfl rfl rfl ?_
  refine jp_load (pc2 := 9) (n := 0) rfl rfl rfl rfl ?_
  refine jp_getf (pc2 := 12) rfl rfl e2 e3 ?_
  refine jp_load (pc2 := 13) (n := 1) rfl rfl rfl rfl ?_
  refine jp_con (pc2 := 14) (v := .int 2) rfl rfl rfl ?_
  refine jp_bin (pc2 := 15) (v := x_1 + 2) rfl rfl rfl ?_
  refine jp_iald (pc2 := 16) rfl rfl e6 b7 ?_
  refine jp_bin (pc2 := 17) (v := (x_1 + 68) + (f5 (x_1 + 2).toNatClampNeg)) rfl rfl rfl ?_
  refine jp_con (pc2 := 18) (v := .int 0) rfl rfl rfl ?_
  refine jp_iast (pc2 := 19) rfl rfl e6 b8 ?_
  refine jp_load (pc2 := 20) (n := 0) rfl rfl rfl rfl ?_
  refine jp_getf (pc2 := 23) rfl rfl (hup_ne n9 e2) e3 ?_
  refine jp_load (pc2 := 24) (n := 1) rfl rfl rfl rfl ?_
  refine jp_con (pc2 := 25) (v := .int 2) rfl rfl rfl ?_
  refine jp_bin (pc2 := 26) (v := x_1 + 2) rfl rfl rfl ?_
  refine jp_dup2 (pc2 := 27) rfl rfl rfl rfl ?_
  refine jp_iald (pc2 := 28) rfl rfl hup_eq b7 ?_
  refine jp_con (pc2 := 29) (v := .int 1) rfl rfl rfl ?_
  refine jp_bin (pc2 := 30) (v := (((upd f5 ((x_1 + 68) + (f5 (x_1 + 2).toNatClampNeg)).toNatClampNeg 0)) (x_1 + 2).toNatClampNeg) + 1) rfl rfl rfl ?_
  refine jp_iast (pc2 := 31) rfl rfl hup_eq b7 ?_
  refine jp_load (pc2 := 32) (n := 0) rfl rfl rfl rfl ?_
  refine jp_getf (pc2 := 35) rfl rfl (hup_ne n9 (hup_ne n9 e2)) e3 ?_
  refine jp_load (pc2 := 36) (n := 1) rfl rfl rfl rfl ?_
  refine jp_con (pc2 := 38) (v := .int 36) rfl rfl rfl ?_
  refine jp_bin (pc2 := 39) (v := x_1 + 36) rfl rfl rfl ?_
  refine jp_load (pc2 := 40) (n := 0) rfl rfl rfl rfl ?_
  refine jp_getf (pc2 := 43) rfl rfl (hup_ne n9 (hup_ne n9 e2)) e3 ?_
  refine jp_load (pc2 := 44) (n := 1) rfl rfl rfl rfl ?_
  refine jp_con (pc2 := 45) (v := .int 1) rfl rfl rfl ?_
  refine jp_bin (pc2 := 46) (v := x_1 + 1) rfl rfl rfl ?_
  refine jp_iald (pc2 := 47) rfl rfl hup_eq b10 ?_
  refine jp_bin (pc2 := 48) (v := (x_1 + 36) + (((upd ((upd f5 ((x_1 + 68) + (f5 (x_1 + 2).toNatClampNeg)).toNatClampNeg 0)) (x_1 + 2).toNatClampNeg ((((upd f5 ((x_1 + 68) + (f5 (x_1 + 2).toNatClampNeg)).toNatClampNeg 0)) (x_1 + 2).toNatClampNeg) + 1))) (x_1 + 1).toNatClampNeg)) rfl rfl rfl ?_
  refine jp_con (pc2 := 49) (v := .int 1) rfl rfl rfl ?_
  refine jp_bin (pc2 := 50) (v := ((x_1 + 36) + (((upd ((upd f5 ((x_1 + 68) + (f5 (x_1 + 2).toNatClampNeg)).toNatClampNeg 0)) (x_1 + 2).toNatClampNeg ((((upd f5 ((x_1 + 68) + (f5 (x_1 + 2).toNatClampNeg)).toNatClampNeg 0)) (x_1 + 2).toNatClampNeg) + 1))) (x_1 + 1).toNatClampNeg)) - 1) rfl rfl rfl ?_
  refine jp_dup2 (pc2 := 51) rfl rfl rfl rfl ?_
  refine jp_iald (pc2 := 52) rfl rfl hup_eq b11 ?_
  refine jp_con (pc2 := 53) (v := .int 1) rfl rfl rfl ?_
  refine jp_bin (pc2 := 54) (v := (((upd ((upd f5 ((x_1 + 68) + (f5 (x_1 + 2).toNatClampNeg)).toNatClampNeg 0)) (x_1 + 2).toNatClampNeg ((((upd f5 ((x_1 + 68) + (f5 (x_1 + 2).toNatClampNeg)).toNatClampNeg 0)) (x_1 + 2).toNatClampNeg) + 1))) (((x_1 + 36) + (((upd ((upd f5 ((x_1 + 68) + (f5 (x_1 + 2).toNatClampNeg)).toNatClampNeg 0)) (x_1 + 2).toNatClampNeg ((((upd f5 ((x_1 + 68) + (f5 (x_1 + 2).toNatClampNeg)).toNatClampNeg 0)) (x_1 + 2).toNatClampNeg) + 1))) (x_1 + 1).toNatClampNeg)) - 1).toNatClampNeg) + 1) rfl rfl rfl ?_
  refine jp_iast (pc2 := 55) rfl rfl hup_eq b11 ?_
  exact ip_vret (st := []) rfl rfl q12
theorem b100_0 {r_0 : Nat} {x_1 : Int32} {fs1 : List Value} {q_fs1_0 : Nat} {n4 : Nat} {f5 : Nat → Int32} (e2 : h r_0 = some (.inr (9, fs1))) (e3 : fs1[0]? = some (.ref q_fs1_0)) (e6 : h q_fs1_0 = some (.inl (0, n4, .inl f5))) (b7 : vp_in (x_1 + 1) n4) (b8 : vp_in ((x_1 + 36) + (f5 (x_1 + 1).toNatClampNeg)) n4) (n9 : r_0 ≠ q_fs1_0) (q10 : Q none (hup (hup h q_fs1_0 (.inl (0, n4, .inl (upd f5 ((x_1 + 36) + (f5 (x_1 + 1).toNatClampNeg)).toNatClampNeg 0)))) q_fs1_0 (.inl (0, n4, .inl (upd ((upd f5 ((x_1 + 36) + (f5 (x_1 + 1).toNatClampNeg)).toNatClampNeg 0)) (x_1 + 1).toNatClampNeg ((((upd f5 ((x_1 + 36) + (f5 (x_1 + 1).toNatClampNeg)).toNatClampNeg 0)) (x_1 + 1).toNatClampNeg) + 1))))) z)  : ip sc call 100 MC MS Q 0 [some (.ref r_0), some (.int x_1)] [] h z c s := by
  refine jp_load (pc2 := 1) (n := 0) rfl rfl rfl rfl ?_
  refine jp_getf (pc2 := 4) rfl rfl e2 e3 ?_
  refine jp_load (pc2 := 5) (n := 1) rfl rfl rfl rfl ?_
  refine jp_con (pc2 := 7) (v := .int 36) rfl rfl rfl ?_
  refine jp_bin (pc2 := 8) (v := x_1 + 36) rfl rfl rfl ?_
  refine jp_load (pc2 := 9) (n := 0) rfl rfl rfl rfl ?_
  refine jp_getf (pc2 := 12) rfl rfl e2 e3 ?_
  refine jp_load (pc2 := 13) (n := 1) rfl rfl rfl rfl ?_
  refine jp_con (pc2 := 14) (v := .int 1) rfl rfl rfl ?_
  refine jp_bin (pc2 := 15) (v := x_1 + 1) rfl rfl rfl ?_
  refine jp_iald (pc2 := 16) rfl rfl e6 b7 ?_
  refine jp_bin (pc2 := 17) (v := (x_1 + 36) + (f5 (x_1 + 1).toNatClampNeg)) rfl rfl rfl ?_
  refine jp_con (pc2 := 18) (v := .int 0) rfl rfl rfl ?_
  refine jp_iast (pc2 := 19) rfl rfl e6 b8 ?_
  refine jp_load (pc2 := 20) (n := 0) rfl rfl rfl rfl ?_
  refine jp_getf (pc2 := 23) rfl rfl (hup_ne n9 e2) e3 ?_
  refine jp_load (pc2 := 24) (n := 1) rfl rfl rfl rfl ?_
  refine jp_con (pc2 := 25) (v := .int 1) rfl rfl rfl ?_
  refine jp_bin (pc2 := 26) (v := x_1 + 1) rfl rfl rfl ?_
  refine jp_dup2 (pc2 := 27) rfl rfl rfl rfl ?_
  refine jp_iald (pc2 := 28) rfl rfl hup_eq b7 ?_
  refine jp_con (pc2 := 29) (v := .int 1) rfl rfl rfl ?_
  refine jp_bin (pc2 := 30) (v := (((upd f5 ((x_1 + 36) + (f5 (x_1 + 1).toNatClampNeg)).toNatClampNeg 0)) (x_1 + 1).toNatClampNeg) + 1) rfl rfl rfl ?_
  refine jp_iast (pc2 := 31) rfl rfl hup_eq b7 ?_
  exact ip_vret (st := []) rfl rfl q10
theorem b101_0 {r_0 : Nat} {x_1 : Int32} {x_2 : Int32} {fs1 : List Value} {q_fs1_0 : Nat} {n4 : Nat} {f5 : Nat → Int32} (e2 : h r_0 = some (.inr (9, fs1))) (e3 : fs1[0]? = some (.ref q_fs1_0)) (e6 : h q_fs1_0 = some (.inl (0, n4, .inl f5))) (b7 : vp_in (x_1 + 3) n4) (b8 : vp_in ((x_1 + 132) + (f5 (x_1 + 3).toNatClampNeg)) n4) (n9 : r_0 ≠ q_fs1_0) (b10 : vp_in (x_1 + 2) n4) (b11 : vp_in (((x_1 + 68) + (((upd ((upd f5 ((x_1 + 132) + (f5 (x_1 + 3).toNatClampNeg)).toNatClampNeg x_2)) (x_1 + 3).toNatClampNeg ((((upd f5 ((x_1 + 132) + (f5 (x_1 + 3).toNatClampNeg)).toNatClampNeg x_2)) (x_1 + 3).toNatClampNeg) + 1))) (x_1 + 2).toNatClampNeg)) - 1) n4) (q12 : Q none (hup (hup (hup h q_fs1_0 (.inl (0, n4, .inl (upd f5 ((x_1 + 132) + (f5 (x_1 + 3).toNatClampNeg)).toNatClampNeg x_2)))) q_fs1_0 (.inl (0, n4, .inl (upd ((upd f5 ((x_1 + 132) + (f5 (x_1 + 3).toNatClampNeg)).toNatClampNeg x_2)) (x_1 + 3).toNatClampNeg ((((upd f5 ((x_1 + 132) + (f5 (x_1 + 3).toNatClampNeg)).toNatClampNeg x_2)) (x_1 + 3).toNatClampNeg) + 1))))) q_fs1_0 (.inl (0, n4, .inl (upd ((upd ((upd f5 ((x_1 + 132) + (f5 (x_1 + 3).toNatClampNeg)).toNatClampNeg x_2)) (x_1 + 3).toNatClampNeg ((((upd f5 ((x_1 + 132) + (f5 (x_1 + 3).toNatClampNeg)).toNatClampNeg x_2)) (x_1 + 3).toNatClampNeg) + 1))) (((x_1 + 68) + (((upd ((upd f5 ((x_1 + 132) + (f5 (x_1 + 3).toNatClampNeg)).toNatClampNeg x_2)) (x_1 + 3).toNatClampNeg ((((upd f5 ((x_1 + 132) + (f5 (x_1 + 3).toNatClampNeg)).toNatClampNeg x_2)) (x_1 + 3).toNatClampNeg) + 1))) (x_1 + 2).toNatClampNeg)) - 1).toNatClampNeg ((((upd ((upd f5 ((x_1 + 132) + (f5 (x_1 + 3).toNatClampNeg)).toNatClampNeg x_2)) (x_1 + 3).toNatClampNeg ((((upd f5 ((x_1 + 132) + (f5 (x_1 + 3).toNatClampNeg)).toNatClampNeg x_2)) (x_1 + 3).toNatClampNeg) + 1))) (((x_1 + 68) + (((upd ((upd f5 ((x_1 + 132) + (f5 (x_1 + 3).toNatClampNeg)).toNatClampNeg x_2)) (x_1 + 3).toNatClampNeg ((((upd f5 ((x_1 + 132) + (f5 (x_1 + 3).toNatClampNeg)).toNatClampNeg x_2)) (x_1 + 3).toNatClampNeg) + 1))) (x_1 + 2).toNatClampNeg)) - 1).toNatClampNeg) + 1))))) z)  : ip sc call 101 MC MS Q 0 [some (.ref r_0), some (.int x_1), some (.int x_2)] [] h z c s := by
  refine jp_load (pc2 := 1) (n := 0) rfl rfl rfl rfl ?_
  refine jp_getf (pc2 := 4) rfl rfl e2 e3 ?_
  refine jp_load (pc2 := 5) (n := 1) rfl rfl rfl rfl ?_
  refine jp_con (pc2 := 8) (v := .int 132) rfl rfl rfl ?_
  refine jp_bin (pc2 := 9) (v := x_1 + 132) rfl rfl rfl ?_
  refine jp_load (pc2 := 10) (n := 0) rfl rfl rfl rfl ?_
  refine jp_getf (pc2 := 13) rfl rfl e2 e3 ?_
  refine jp_load (pc2 := 14) (n := 1) rfl rfl rfl rfl ?_
  refine jp_con (pc2 := 15) (v := .int 3) rfl rfl rfl ?_
  refine jp_bin (pc2 := 16) (v := x_1 + 3) rfl rfl rfl ?_
  refine jp_iald (pc2 := 17) rfl rfl e6 b7 ?_
  refine jp_bin (pc2 := 18) (v := (x_1 + 132) + (f5 (x_1 + 3).toNatClampNeg)) rfl rfl rfl ?_
  refine jp_load (pc2 := 19) (n := 2) rfl rfl rfl rfl ?_
  refine jp_iast (pc2 := 20) rfl rfl e6 b8 ?_
  refine jp_load (pc2 := 21) (n := 0) rfl rfl rfl rfl ?_
  refine jp_getf (pc2 := 24) rfl rfl (hup_ne n9 e2) e3 ?_
  refine jp_load (pc2 := 25) (n := 1) rfl rfl rfl rfl ?_
  refine jp_con (pc2 := 26) (v := .int 3) rfl rfl rfl ?_
  refine jp_bin (pc2 := 27) (v := x_1 + 3) rfl rfl rfl ?_
  refine jp_dup2 (pc2 := 28) rfl rfl rfl rfl ?_
  refine jp_iald (pc2 := 29) rfl rfl hup_eq b7 ?_
  refine jp_con (pc2 := 30) (v := .int 1) rfl rfl rfl ?_
  refine jp_bin (pc2 := 31) (v := (((upd f5 ((x_1 + 132) + (f5 (x_1 + 3).toNatClampNeg)).toNatClampNeg x_2)) (x_1 + 3).toNatClampNeg) + 1) rfl rfl rfl ?_
  refine jp_iast (pc2 := 32) rfl rfl hup_eq b7 ?_
  refine jp_load (pc2 := 33) (n := 0) rfl rfl rfl rfl ?_
  refine jp_getf (pc2 := 36) rfl rfl (hup_ne n9 (hup_ne n9 e2)) e3 ?_
  refine jp_load (pc2 := 37) (n := 1) rfl rfl rfl rfl ?_
  refine jp_con (pc2 := 39) (v := .int 68) rfl rfl rfl ?_
  refine jp_bin (pc2 := 40) (v := x_1 + 68) rfl rfl rfl ?_
  refine jp_load (pc2 := 41) (n := 0) rfl rfl rfl rfl ?_
  refine jp_getf (pc2 := 44) rfl rfl (hup_ne n9 (hup_ne n9 e2)) e3 ?_
  refine jp_load (pc2 := 45) (n := 1) rfl rfl rfl rfl ?_
  refine jp_con (pc2 := 46) (v := .int 2) rfl rfl rfl ?_
  refine jp_bin (pc2 := 47) (v := x_1 + 2) rfl rfl rfl ?_
  refine jp_iald (pc2 := 48) rfl rfl hup_eq b10 ?_
  refine jp_bin (pc2 := 49) (v := (x_1 + 68) + (((upd ((upd f5 ((x_1 + 132) + (f5 (x_1 + 3).toNatClampNeg)).toNatClampNeg x_2)) (x_1 + 3).toNatClampNeg ((((upd f5 ((x_1 + 132) + (f5 (x_1 + 3).toNatClampNeg)).toNatClampNeg x_2)) (x_1 + 3).toNatClampNeg) + 1))) (x_1 + 2).toNatClampNeg)) rfl rfl rfl ?_
  refine jp_con (pc2 := 50) (v := .int 1) rfl rfl rfl ?_
  refine jp_bin (pc2 := 51) (v := ((x_1 + 68) + (((upd ((upd f5 ((x_1 + 132) + (f5 (x_1 + 3).toNatClampNeg)).toNatClampNeg x_2)) (x_1 + 3).toNatClampNeg ((((upd f5 ((x_1 + 132) + (f5 (x_1 + 3).toNatClampNeg)).toNatClampNeg x_2)) (x_1 + 3).toNatClampNeg) + 1))) (x_1 + 2).toNatClampNeg)) - 1) rfl rfl rfl ?_
  refine jp_dup2 (pc2 := 52) rfl rfl rfl rfl ?_
  refine jp_iald (pc2 := 53) rfl rfl hup_eq b11 ?_
  refine jp_con (pc2 := 54) (v := .int 1) rfl rfl rfl ?_
  refine jp_bin (pc2 := 55) (v := (((upd ((upd f5 ((x_1 + 132) + (f5 (x_1 + 3).toNatClampNeg)).toNatClampNeg x_2)) (x_1 + 3).toNatClampNeg ((((upd f5 ((x_1 + 132) + (f5 (x_1 + 3).toNatClampNeg)).toNatClampNeg x_2)) (x_1 + 3).toNatClampNeg) + 1))) (((x_1 + 68) + (((upd ((upd f5 ((x_1 + 132) + (f5 (x_1 + 3).toNatClampNeg)).toNatClampNeg x_2)) (x_1 + 3).toNatClampNeg ((((upd f5 ((x_1 + 132) + (f5 (x_1 + 3).toNatClampNeg)).toNatClampNeg x_2)) (x_1 + 3).toNatClampNeg) + 1))) (x_1 + 2).toNatClampNeg)) - 1).toNatClampNeg) + 1) rfl rfl rfl ?_
  refine jp_iast (pc2 := 56) rfl rfl hup_eq b11 ?_
  exact ip_vret (st := []) rfl rfl q12
theorem b102_0 {r_0 : Nat} {x_1 : Int32} {x_2 : Int32} {x_3 : Int32} {o_4 : Option Value} {o_5 : Option Value} {fs1 : List Value} {P : ipQ} (e2 : h r_0 = some (.inr (9, fs1))) (m3 : c ≤ MC) (m4 : s ≤ MS) (hc : call 99 [(.ref r_0), (.int x_3)] h z 0 0 P) (K : ∀ (o : Option Value) (h2 : HP) (z2 : Nat), P o h2 z2 → ip sc call 102 MC MS Q 5 [some (.ref r_0), some (.int x_1), some (.int x_2), some (.int x_3), o_4, o_5] (o.toList ++ []) h2 z2 c s) : ip sc call 102 MC MS Q 0 [some (.ref r_0), some (.int x_1), some (.int x_2), some (.int x_3), o_4, o_5] [] h z c s := by
  refine jp_load (pc2 := 1) (n := 0) rfl rfl rfl rfl ?_
  refine jp_load (pc2 := 2) (n := 3) rfl rfl rfl rfl ?_
  exact jp_virt0 (pc2 := 5) (As := [(.int x_3)]) (rest := []) rfl rfl rfl (Nat.le_of_ble_eq_true rfl) e2 m3 m4 hc rfl K
theorem b102_5 {r_0 : Nat} {x_1 : Int32} {x_2 : Int32} {x_3 : Int32} {o_4 : Option Value} {o_5 : Option Value} {fs1 : List Value} {P : ipQ} (e2 : h r_0 = some (.inr (9, fs1))) (m3 : c ≤ MC) (m4 : s ≤ MS) (hc : call 98 [(.ref r_0), (.int x_1), (.int x_2)] h z 0 0 P) (K : ∀ (o : Option Value) (h2 : HP) (z2 : Nat), P o h2 z2 → ip sc call 102 MC MS Q 11 [some (.ref r_0), some (.int x_1), some (.int x_2), some (.int x_3), o_4, o_5] (o.toList ++ []) h2 z2 c s) : ip sc call 102 MC MS Q 5 [some (.ref r_0), some (.int x_1), some (.int x_2), some (.int x_3), o_4, o_5] [] h z c s := by
  refine jp_load (pc2 := 6) (n := 0) rfl rfl rfl rfl ?_
  refine jp_load (pc2 := 7) (n := 1) rfl rfl rfl rfl ?_
  refine jp_load (pc2 := 8) (n := 2) rfl rfl rfl rfl ?_
  exact jp_virt0 (pc2 := 11) (As := [(.int x_1), (.int x_2)]) (rest := []) rfl rfl rfl (Nat.le_of_ble_eq_true rfl) e2 m3 m4 hc rfl K
theorem b102_11 {r_0 : Nat} {x_1 : Int32} {x_2 : Int32} {x_3 : Int32} {o_4 : Option Value} {o_5 : Option Value} {sx_0 : Int32}  (K : ip sc call 102 MC MS Q 16 [some (.ref r_0), some (.int x_1), some (.int x_2), some (.int x_3), some (.int sx_0), some (.int 0)] [] h z c s) : ip sc call 102 MC MS Q 11 [some (.ref r_0), some (.int x_1), some (.int x_2), some (.int x_3), o_4, o_5] [(.int sx_0)] h z c s := by
  refine jp_store (pc2 := 13) (n := 4) rfl rfl ⟨rfl, rfl⟩ rfl (Nat.le_of_ble_eq_true rfl) ?_
  refine jp_con (pc2 := 14) (v := .int 0) rfl rfl rfl ?_
  refine jp_store (pc2 := 16) (n := 5) rfl rfl ⟨rfl, rfl⟩ rfl (Nat.le_of_ble_eq_true rfl) ?_
  exact K
theorem b102_16 {r_0 : Nat} {x_1 : Int32} {x_2 : Int32} {x_3 : Int32} {x_4 : Int32} {x_5 : Int32} {fs1 : List Value} {q_fs1_0 : Nat} {n4 : Nat} {f5 : Nat → Int32} (e2 : h r_0 = some (.inr (9, fs1))) (e3 : fs1[0]? = some (.ref q_fs1_0)) (e6 : h q_fs1_0 = some (.inl (0, n4, .inl f5))) (b7 : vp_in ((x_1 + 68) + x_2) n4) (K1 : (f5 ((x_1 + 68) + x_2).toNatClampNeg) ≤ x_5 → ip sc call 102 MC MS Q 53 [some (.ref r_0), some (.int x_1), some (.int x_2), some (.int x_3), some (.int x_4), some (.int x_5)] [] h z c s) (K2 : ¬ ((f5 ((x_1 + 68) + x_2).toNatClampNeg) ≤ x_5) → ip sc call 102 MC MS Q 32 [some (.ref r_0), some (.int x_1), some (.int x_2), some (.int x_3), some (.int x_4), some (.int x_5)] [] h z c s) : ip sc call 102 MC MS Q 16 [some (.ref r_0), some (.int x_1), some (.int x_2), some (.int x_3), some (.int x_4), some (.int x_5)] [] h z c s := by
  refine jp_load (pc2 := 18) (n := 5) rfl rfl rfl rfl ?_
  refine jp_load (pc2 := 19) (n := 0) rfl rfl rfl rfl ?_
  refine jp_getf (pc2 := 22) rfl rfl e2 e3 ?_
  refine jp_load (pc2 := 23) (n := 1) rfl rfl rfl rfl ?_
  refine jp_con (pc2 := 25) (v := .int 68) rfl rfl rfl ?_
  refine jp_bin (pc2 := 26) (v := x_1 + 68) rfl rfl rfl ?_
  refine jp_load (pc2 := 27) (n := 2) rfl rfl rfl rfl ?_
  refine jp_bin (pc2 := 28) (v := (x_1 + 68) + x_2) rfl rfl rfl ?_
  refine jp_iald (pc2 := 29) rfl rfl e6 b7 ?_
  exact jp_icmp (pc2 := 32) rfl rfl K1 K2
theorem b102_32 {r_0 : Nat} {x_1 : Int32} {x_2 : Int32} {x_3 : Int32} {x_4 : Int32} {x_5 : Int32} {fs1 : List Value} {q_fs1_0 : Nat} {n4 : Nat} {f5 : Nat → Int32} {P : ipQ} (e2 : h r_0 = some (.inr (9, fs1))) (e3 : fs1[0]? = some (.ref q_fs1_0)) (e6 : h q_fs1_0 = some (.inl (0, n4, .inl f5))) (b7 : vp_in (x_4 + x_5) n4) (m8 : c ≤ MC) (m9 : s ≤ MS) (hc : call 101 [(.ref r_0), (.int x_3), (.int (f5 (x_4 + x_5).toNatClampNeg))] h z 0 0 P) (K : ∀ (o : Option Value) (h2 : HP) (z2 : Nat), P o h2 z2 → ip sc call 102 MC MS Q 47 [some (.ref r_0), some (.int x_1), some (.int x_2), some (.int x_3), some (.int x_4), some (.int x_5)] (o.toList ++ []) h2 z2 c s) : ip sc call 102 MC MS Q 32 [some (.ref r_0), some (.int x_1), some (.int x_2), some (.int x_3), some (.int x_4), some (.int x_5)] [] h z c s := by
  refine jp_load (pc2 := 33) (n := 0) rfl rfl rfl rfl ?_
  refine jp_load (pc2 := 34) (n := 3) rfl rfl rfl rfl ?_
  refine jp_load (pc2 := 35) (n := 0) rfl rfl rfl rfl ?_
  refine jp_getf (pc2 := 38) rfl rfl e2 e3 ?_
  refine jp_load (pc2 := 40) (n := 4) rfl rfl rfl rfl ?_
  refine jp_load (pc2 := 42) (n := 5) rfl rfl rfl rfl ?_
  refine jp_bin (pc2 := 43) (v := x_4 + x_5) rfl rfl rfl ?_
  refine jp_iald (pc2 := 44) rfl rfl e6 b7 ?_
  exact jp_virt0 (pc2 := 47) (As := [(.int x_3), (.int (f5 (x_4 + x_5).toNatClampNeg))]) (rest := []) rfl rfl rfl (Nat.le_of_ble_eq_true rfl) e2 m8 m9 hc rfl K
theorem b102_47 {r_0 : Nat} {x_1 : Int32} {x_2 : Int32} {x_3 : Int32} {x_4 : Int32} {x_5 : Int32}  (K : ip sc call 102 MC MS Q 16 [some (.ref r_0), some (.int x_1), some (.int x_2), some (.int x_3), some (.int x_4), some (.int (x_5 + 1))] [] h z c s) : ip sc call 102 MC MS Q 47 [some (.ref r_0), some (.int x_1), some (.int x_2), some (.int x_3), some (.int x_4), some (.int x_5)] [] h z c s := by
  refine jp_iinc (pc2 := 50) (n := 5) (v := x_5 + 1) rfl rfl rfl rfl rfl ?_
  refine ip_goto rfl ?_
  exact K
theorem b102_53 {o_0 : Option Value} {o_1 : Option Value} {o_2 : Option Value} {o_3 : Option Value} {o_4 : Option Value} {o_5 : Option Value} (q1 : Q none h z)  : ip sc call 102 MC MS Q 53 [o_0, o_1, o_2, o_3, o_4, o_5] [] h z c s := by
  exact ip_vret (st := []) rfl rfl q1
theorem b103_0 {r_0 : Nat} {x_1 : Int32} {x_2 : Int32} {x_3 : Int32} {x_4 : Int32} {x_5 : Int32} {o_6 : Option Value} {o_7 : Option Value} {fs1 : List Value} {P : ipQ} (e2 : h r_0 = some (.inr (9, fs1))) (m3 : c ≤ MC) (m4 : s ≤ MS) (hc : call 98 [(.ref r_0), (.int x_1), (.int x_2)] h z 0 0 P) (K : ∀ (o : Option Value) (h2 : HP) (z2 : Nat), P o h2 z2 → ip sc call 103 MC MS Q 6 [some (.ref r_0), some (.int x_1), some (.int x_2), some (.int x_3), some (.int x_4), some (.int x_5), o_6, o_7] (o.toList ++ []) h2 z2 c s) : ip sc call 103 MC MS Q 0 [some (.ref r_0), some (.int x_1), some (.int x_2), some (.int x_3), some (.int x_4), some (.int x_5), o_6, o_7] [] h z c s := by
  refine jp_load (pc2 := 1) (n := 0) rfl rfl rfl rfl ?_
  refine jp_load (pc2 := 2) (n := 1) rfl rfl rfl rfl ?_
  refine jp_load (pc2 := 3) (n := 2) rfl rfl rfl rfl ?_
  exact jp_virt0 (pc2 := 6) (As := [(.int x_1), (.int x_2)]) (rest := []) rfl rfl rfl (Nat.le_of_ble_eq_true rfl) e2 m3 m4 hc rfl K
theorem b103_6 {r_0 : Nat} {o_1 : Option Value} {o_2 : Option Value} {x_3 : Int32} {x_4 : Int32} {x_5 : Int32} {o_6 : Option Value} {o_7 : Option Value} {sx_0 : Int32}  (K : ip sc call 103 MC MS Q 11 [some (.ref r_0), o_1, o_2, some (.int x_3), some (.int x_4), some (.int x_5), some (.int sx_0), some (.int x_3)] [] h z c s) : ip sc call 103 MC MS Q 6 [some (.ref r_0), o_1, o_2, some (.int x_3), some (.int x_4), some (.int x_5), o_6, o_7] [(.int sx_0)] h z c s := by
  refine jp_store (pc2 := 8) (n := 6) rfl rfl ⟨rfl, rfl⟩ rfl (Nat.le_of_ble_eq_true rfl) ?_
  refine jp_load (pc2 := 9) (n := 3) rfl rfl rfl rfl ?_
  refine jp_store (pc2 := 11) (n := 7) rfl rfl ⟨rfl, rfl⟩ rfl (Nat.le_of_ble_eq_true rfl) ?_
  exact K
theorem b103_11 {r_0 : Nat} {o_1 : Option Value} {o_2 : Option Value} {o_3 : Option Value} {x_4 : Int32} {x_5 : Int32} {x_6 : Int32} {x_7 : Int32}  (K1 : x_4 < x_7 → ip sc call 103 MC MS Q 40 [some (.ref r_0), o_1, o_2, o_3, some (.int x_4), some (.int x_5), some (.int x_6), some (.int x_7)] [] h z c s) (K2 : ¬ (x_4 < x_7) → ip sc call 103 MC MS Q 18 [some (.ref r_0), o_1, o_2, o_3, some (.int x_4), some (.int x_5), some (.int x_6), some (.int x_7)] [] h z c s) : ip sc call 103 MC MS Q 11 [some (.ref r_0), o_1, o_2, o_3, some (.int x_4), some (.int x_5), some (.int x_6), some (.int x_7)] [] h z c s := by
  refine jp_load (pc2 := 13) (n := 7) rfl rfl rfl rfl ?_
  refine jp_load (pc2 := 15) (n := 4) rfl rfl rfl rfl ?_
  exact jp_icmp (pc2 := 18) rfl rfl K1 K2
theorem b103_18 {r_0 : Nat} {o_1 : Option Value} {o_2 : Option Value} {o_3 : Option Value} {x_4 : Int32} {x_5 : Int32} {x_6 : Int32} {x_7 : Int32} {fs1 : List Value} {q_fs1_0 : Nat} {n4 : Nat} {f5 : Nat → Int32} {P : ipQ} (e2 : h r_0 = some (.inr (9, fs1))) (e3 : fs1[0]? = some (.ref q_fs1_0)) (e6 : h q_fs1_0 = some (.inl (0, n4, .inl f5))) (b7 : vp_in (x_6 + x_7) n4) (m8 : c ≤ MC) (m9 : s ≤ MS) (hc : call 101 [(.ref r_0), (.int x_5), (.int (f5 (x_6 + x_7).toNatClampNeg))] h z 0 0 P) (K : ∀ (o : Option Value) (h2 : HP) (z2 : Nat), P o h2 z2 → ip sc call 103 MC MS Q 34 [some (.ref r_0), o_1, o_2, o_3, some (.int x_4), some (.int x_5), some (.int x_6), some (.int x_7)] (o.toList ++ []) h2 z2 c s) : ip sc call 103 MC MS Q 18 [some (.ref r_0), o_1, o_2, o_3, some (.int x_4), some (.int x_5), some (.int x_6), some (.int x_7)] [] h z c s := by
  refine jp_load (pc2 := 19) (n := 0) rfl rfl rfl rfl ?_
  refine jp_load (pc2 := 21) (n := 5) rfl rfl rfl rfl ?_
  refine jp_load (pc2 := 22) (n := 0) rfl rfl rfl rfl ?_
  refine jp_getf (pc2 := 25) rfl rfl e2 e3 ?_
  refine jp_load (pc2 := 27) (n := 6) rfl rfl rfl rfl ?_
  refine jp_load (pc2 := 29) (n := 7) rfl rfl rfl rfl ?_
  refine jp_bin (pc2 := 30) (v := x_6 + x_7) rfl rfl rfl ?_
  refine jp_iald (pc2 := 31) rfl rfl e6 b7 ?_
  exact jp_virt0 (pc2 := 34) (As := [(.int x_5), (.int (f5 (x_6 + x_7).toNatClampNeg))]) (rest := []) rfl rfl rfl (Nat.le_of_ble_eq_true rfl) e2 m8 m9 hc rfl K
theorem b103_34 {r_0 : Nat} {o_1 : Option Value} {o_2 : Option Value} {o_3 : Option Value} {x_4 : Int32} {x_5 : Int32} {x_6 : Int32} {x_7 : Int32}  (K : ip sc call 103 MC MS Q 11 [some (.ref r_0), o_1, o_2, o_3, some (.int x_4), some (.int x_5), some (.int x_6), some (.int (x_7 + 1))] [] h z c s) : ip sc call 103 MC MS Q 34 [some (.ref r_0), o_1, o_2, o_3, some (.int x_4), some (.int x_5), some (.int x_6), some (.int x_7)] [] h z c s := by
  refine jp_iinc (pc2 := 37) (n := 7) (v := x_7 + 1) rfl rfl rfl rfl rfl ?_
  refine ip_goto rfl ?_
  exact K
theorem b103_40 {o_0 : Option Value} {o_1 : Option Value} {o_2 : Option Value} {o_3 : Option Value} {o_4 : Option Value} {o_5 : Option Value} {o_6 : Option Value} {o_7 : Option Value} (q1 : Q none h z)  : ip sc call 103 MC MS Q 40 [o_0, o_1, o_2, o_3, o_4, o_5, o_6, o_7] [] h z c s := by
  exact ip_vret (st := []) rfl rfl q1
theorem b104_0 {r_0 : Nat} {x_1 : Int32} {x_2 : Int32} {x_3 : Int32} {x_4 : Int32} {o_5 : Option Value} {o_6 : Option Value} {fs1 : List Value} {q_fs1_0 : Nat} {n4 : Nat} {f5 : Nat → Int32} {P : ipQ} (e2 : h r_0 = some (.inr (9, fs1))) (e3 : fs1[0]? = some (.ref q_fs1_0)) (e6 : h q_fs1_0 = some (.inl (0, n4, .inl f5))) (b7 : vp_in ((x_1 + 68) + x_2) n4) (m8 : c ≤ MC) (m9 : s ≤ MS) (hc : call 98 [(.ref r_0), (.int x_1), (.int x_2)] h z 0 0 P) (K : ∀ (o : Option Value) (h2 : HP) (z2 : Nat), P o h2 z2 → ip sc call 104 MC MS Q 23 [some (.ref r_0), some (.int x_1), some (.int x_2), some (.int x_3), some (.int x_4), some (.int (f5 ((x_1 + 68) + x_2).toNatClampNeg)), o_6] (o.toList ++ [(.ref q_fs1_0)]) h2 z2 c s) : ip sc call 104 MC MS Q 0 [some (.ref r_0), some (.int x_1), some (.int x_2), some (.int x_3), some (.int x_4), o_5, o_6] [] h z c s := by
  refine jp_load (pc2 := 1) (n := 0) rfl rfl rfl rfl ?_
  refine jp_getf (pc2 := 4) rfl rfl e2 e3 ?_
  refine jp_load (pc2 := 5) (n := 1) rfl rfl rfl rfl ?_
  refine jp_con (pc2 := 7) (v := .int 68) rfl rfl rfl ?_
  refine jp_bin (pc2 := 8) (v := x_1 + 68) rfl rfl rfl ?_
  refine jp_load (pc2 := 9) (n := 2) rfl rfl rfl rfl ?_
  refine jp_bin (pc2 := 10) (v := (x_1 + 68) + x_2) rfl rfl rfl ?_
  refine jp_iald (pc2 := 11) rfl rfl e6 b7 ?_
  refine jp_store (pc2 := 13) (n := 5) rfl rfl ⟨rfl, rfl⟩ rfl (Nat.le_of_ble_eq_true rfl) ?_
  refine jp_load (pc2 := 14) (n := 0) rfl rfl rfl rfl ?_
  refine jp_getf (pc2 := 17) rfl rfl e2 e3 ?_
  refine jp_load (pc2 := 18) (n := 0) rfl rfl rfl rfl ?_
  refine jp_load (pc2 := 19) (n := 1) rfl rfl rfl rfl ?_
  refine jp_load (pc2 := 20) (n := 2) rfl rfl rfl rfl ?_
  exact jp_virt0 (pc2 := 23) (As := [(.int x_1), (.int x_2)]) (rest := [(.ref q_fs1_0)]) rfl rfl rfl (Nat.le_of_ble_eq_true rfl) e2 m8 m9 hc rfl K
theorem b104_23 {r_0 : Nat} {x_1 : Int32} {x_2 : Int32} {x_3 : Int32} {x_4 : Int32} {x_5 : Int32} {o_6 : Option Value} {sr_0 : Nat} {sx_1 : Int32} {n1 : Nat} {f2 : Nat → Int32} {fs5 : List Value} {P : ipQ} (e3 : h sr_0 = some (.inl (0, n1, .inl f2))) (b4 : vp_in (sx_1 + x_3) n1) (e6 : h r_0 = some (.inr (9, fs5))) (m7 : c ≤ MC) (m8 : s ≤ MS) (hc : call 103 [(.ref r_0), (.int x_1), (.int x_2), (.int x_3), (.int (x_5 - 1)), (.int x_4)] h z 0 0 P) (K : ∀ (o : Option Value) (h2 : HP) (z2 : Nat), P o h2 z2 → ip sc call 104 MC MS Q 41 [some (.ref r_0), some (.int x_1), some (.int x_2), some (.int x_3), some (.int x_4), some (.int x_5), some (.int (f2 (sx_1 + x_3).toNatClampNeg))] (o.toList ++ []) h2 z2 c s) : ip sc call 104 MC MS Q 23 [some (.ref r_0), some (.int x_1), some (.int x_2), some (.int x_3), some (.int x_4), some (.int x_5), o_6] [(.int sx_1), (.ref sr_0)] h z c s := by
  refine jp_load (pc2 := 24) (n := 3) rfl rfl rfl rfl ?_
  refine jp_bin (pc2 := 25) (v := sx_1 + x_3) rfl rfl rfl ?_
  refine jp_iald (pc2 := 26) rfl rfl e3 b4 ?_
  refine jp_store (pc2 := 28) (n := 6) rfl rfl ⟨rfl, rfl⟩ rfl (Nat.le_of_ble_eq_true rfl) ?_
  refine jp_load (pc2 := 29) (n := 0) rfl rfl rfl rfl ?_
  refine jp_load (pc2 := 30) (n := 1) rfl rfl rfl rfl ?_
  refine jp_load (pc2 := 31) (n := 2) rfl rfl rfl rfl ?_
  refine jp_load (pc2 := 32) (n := 3) rfl rfl rfl rfl ?_
  refine jp_load (pc2 := 34) (n := 5) rfl rfl rfl rfl ?_
  refine jp_con (pc2 := 35) (v := .int 1) rfl rfl rfl ?_
  refine jp_bin (pc2 := 36) (v := x_5 - 1) rfl rfl rfl ?_
  refine jp_load (pc2 := 38) (n := 4) rfl rfl rfl rfl ?_
  exact jp_virt0 (pc2 := 41) (As := [(.int x_1), (.int x_2), (.int x_3), (.int (x_5 - 1)), (.int x_4)]) (rest := []) rfl rfl rfl (Nat.le_of_ble_eq_true rfl) e6 m7 m8 hc rfl K
theorem b104_41 {r_0 : Nat} {x_1 : Int32} {x_2 : Int32} {x_3 : Int32} {x_4 : Int32} {o_5 : Option Value} {x_6 : Int32} {fs1 : List Value} {q_fs1_0 : Nat} {n4 : Nat} {f5 : Nat → Int32} (e2 : h r_0 = some (.inr (9, fs1))) (e3 : fs1[0]? = some (.ref q_fs1_0)) (e6 : h q_fs1_0 = some (.inl (0, n4, .inl f5))) (b7 : vp_in ((x_1 + 4) + x_6) n4) (K1 : ¬ (f5 ((x_1 + 4) + x_6).toNatClampNeg) = 3 → ip sc call 104 MC MS Q 57 [some (.ref r_0), some (.int x_1), some (.int x_2), some (.int x_3), some (.int x_4), o_5, some (.int x_6)] [] h z c s) (K2 : ¬ (¬ (f5 ((x_1 + 4) + x_6).toNatClampNeg) = 3) → ip sc call 104 MC MS Q 56 [some (.ref r_0), some (.int x_1), some (.int x_2), some (.int x_3), some (.int x_4), o_5, some (.int x_6)] [] h z c s) : ip sc call 104 MC MS Q 41 [some (.ref r_0), some (.int x_1), some (.int x_2), some (.int x_3), some (.int x_4), o_5, some (.int x_6)] [] h z c s := by
  refine jp_load (pc2 := 42) (n := 0) rfl rfl rfl rfl ?_
  refine jp_getf (pc2 := 45) rfl rfl e2 e3 ?_
  refine jp_load (pc2 := 46) (n := 1) rfl rfl rfl rfl ?_
  refine jp_con (pc2 := 47) (v := .int 4) rfl rfl rfl ?_
  refine jp_bin (pc2 := 48) (v := x_1 + 4) rfl rfl rfl ?_
  refine jp_load (pc2 := 50) (n := 6) rfl rfl rfl rfl ?_
  refine jp_bin (pc2 := 51) (v := (x_1 + 4) + x_6) rfl rfl rfl ?_
  refine jp_iald (pc2 := 52) rfl rfl e6 b7 ?_
  refine jp_con (pc2 := 53) (v := .int 3) rfl rfl rfl ?_
  exact jp_icmp (pc2 := 56) rfl rfl K1 K2
theorem b104_56 {o_0 : Option Value} {o_1 : Option Value} {o_2 : Option Value} {o_3 : Option Value} {o_4 : Option Value} {o_5 : Option Value} {o_6 : Option Value} (q1 : Q none h z)  : ip sc call 104 MC MS Q 56 [o_0, o_1, o_2, o_3, o_4, o_5, o_6] [] h z c s := by
  exact ip_vret (st := []) rfl rfl q1
theorem b104_57 {r_0 : Nat} {x_1 : Int32} {x_2 : Int32} {x_3 : Int32} {x_4 : Int32} {o_5 : Option Value} {o_6 : Option Value} {fs1 : List Value} {P : ipQ} (e2 : h r_0 = some (.inr (9, fs1))) (m3 : c ≤ MC) (m4 : s ≤ MS) (hc : call 103 [(.ref r_0), (.int x_1), (.int x_2), (.int 0), (.int x_3), (.int x_4)] h z 0 0 P) (K : ∀ (o : Option Value) (h2 : HP) (z2 : Nat), P o h2 z2 → ip sc call 104 MC MS Q 67 [some (.ref r_0), some (.int x_1), some (.int x_2), some (.int x_3), some (.int x_4), o_5, o_6] (o.toList ++ []) h2 z2 c s) : ip sc call 104 MC MS Q 57 [some (.ref r_0), some (.int x_1), some (.int x_2), some (.int x_3), some (.int x_4), o_5, o_6] [] h z c s := by
  refine jp_load (pc2 := 58) (n := 0) rfl rfl rfl rfl ?_
  refine jp_load (pc2 := 59) (n := 1) rfl rfl rfl rfl ?_
  refine jp_load (pc2 := 60) (n := 2) rfl rfl rfl rfl ?_
  refine jp_con (pc2 := 61) (v := .int 0) rfl rfl rfl ?_
  refine jp_load (pc2 := 62) (n := 3) rfl rfl rfl rfl ?_
  refine jp_load (pc2 := 64) (n := 4) rfl rfl rfl rfl ?_
  exact jp_virt0 (pc2 := 67) (As := [(.int x_1), (.int x_2), (.int 0), (.int x_3), (.int x_4)]) (rest := []) rfl rfl rfl (Nat.le_of_ble_eq_true rfl) e2 m3 m4 hc rfl K
theorem b104_67 {o_0 : Option Value} {o_1 : Option Value} {o_2 : Option Value} {o_3 : Option Value} {o_4 : Option Value} {o_5 : Option Value} {o_6 : Option Value} (q1 : Q none h z)  : ip sc call 104 MC MS Q 67 [o_0, o_1, o_2, o_3, o_4, o_5, o_6] [] h z c s := by
  exact ip_vret (st := []) rfl rfl q1
theorem b105_0 {r_0 : Nat} {x_1 : Int32} {x_2 : Int32} {x_3 : Int32} {x_4 : Int32} {fs1 : List Value} {q_fs1_0 : Nat} {P : ipQ} (e2 : h r_0 = some (.inr (9, fs1))) (e3 : fs1[0]? = some (.ref q_fs1_0)) (m4 : c ≤ MC) (m5 : s ≤ MS) (hc : call 97 [(.ref r_0), (.int x_1), (.int x_2)] h z 0 0 P) (K : ∀ (o : Option Value) (h2 : HP) (z2 : Nat), P o h2 z2 → ip sc call 105 MC MS Q 12 [some (.ref r_0), some (.int x_1), some (.int x_2), some (.int x_3), some (.int x_4)] (o.toList ++ [(.int x_1), (.ref r_0), (.ref q_fs1_0)]) h2 z2 c s) : ip sc call 105 MC MS Q 0 [some (.ref r_0), some (.int x_1), some (.int x_2), some (.int x_3), some (.int x_4)] [] h z c s := by
  refine jp_load (pc2 := 1) (n := 0) rfl rfl rfl rfl ?_
  refine jp_getf (pc2 := 4) rfl rfl e2 e3 ?_
  refine jp_load (pc2 := 5) (n := 0) rfl rfl rfl rfl ?_
  refine jp_load (pc2 := 6) (n := 1) rfl rfl rfl rfl ?_
  refine jp_load (pc2 := 7) (n := 0) rfl rfl rfl rfl ?_
  refine jp_load (pc2 := 8) (n := 1) rfl rfl rfl rfl ?_
  refine jp_load (pc2 := 9) (n := 2) rfl rfl rfl rfl ?_
  exact jp_virt0 (pc2 := 12) (As := [(.int x_1), (.int x_2)]) (rest := [(.int x_1), (.ref r_0), (.ref q_fs1_0)]) rfl rfl rfl (Nat.le_of_ble_eq_true rfl) e2 m4 m5 hc rfl K
theorem b105_12 {o_0 : Option Value} {o_1 : Option Value} {o_2 : Option Value} {x_3 : Int32} {x_4 : Int32} {sr_0 : Nat} {sr_1 : Nat} {sx_2 : Int32} {sx_3 : Int32} {fs1 : List Value} {P : ipQ} (e2 : h sr_1 = some (.inr (9, fs1))) (m3 : c ≤ MC) (m4 : s ≤ MS) (hc : call 98 [(.ref sr_1), (.int sx_2), (.int (sx_3 + x_3))] h z 0 0 P) (K : ∀ (o : Option Value) (h2 : HP) (z2 : Nat), P o h2 z2 → ip sc call 105 MC MS Q 17 [o_0, o_1, o_2, some (.int x_3), some (.int x_4)] (o.toList ++ [(.ref sr_0)]) h2 z2 c s) : ip sc call 105 MC MS Q 12 [o_0, o_1, o_2, some (.int x_3), some (.int x_4)] [(.int sx_3), (.int sx_2), (.ref sr_1), (.ref sr_0)] h z c s := by
  refine jp_load (pc2 := 13) (n := 3) rfl rfl rfl rfl ?_
  refine jp_bin (pc2 := 14) (v := sx_3 + x_3) rfl rfl rfl ?_
  exact jp_virt0 (pc2 := 17) (As := [(.int sx_2), (.int (sx_3 + x_3))]) (rest := [(.ref sr_0)]) rfl rfl rfl (Nat.le_of_ble_eq_true rfl) e2 m3 m4 hc rfl K
theorem b105_17 {o_0 : Option Value} {o_1 : Option Value} {o_2 : Option Value} {o_3 : Option Value} {x_4 : Int32} {sr_0 : Nat} {sx_1 : Int32} {n1 : Nat} {f2 : Nat → Int32} (e3 : h sr_0 = some (.inl (0, n1, .inl f2))) (b4 : vp_in (sx_1 + x_4) n1) (q5 : Q (some (.int (f2 (sx_1 + x_4).toNatClampNeg))) h z)  : ip sc call 105 MC MS Q 17 [o_0, o_1, o_2, o_3, some (.int x_4)] [(.int sx_1), (.ref sr_0)] h z c s := by
  refine jp_load (pc2 := 19) (n := 4) rfl rfl rfl rfl ?_
  refine jp_bin (pc2 := 20) (v := sx_1 + x_4) rfl rfl rfl ?_
  refine jp_iald (pc2 := 21) rfl rfl e3 b4 ?_
  exact ip_iret (st := []) rfl rfl rfl q5
theorem b106_0 {r_0 : Nat} {x_1 : Int32} {x_2 : Int32} {x_3 : Int32} {x_4 : Int32} {x_5 : Int32} {x_6 : Int32} {o_7 : Option Value} {o_8 : Option Value} {fs1 : List Value} {P : ipQ} (e2 : h r_0 = some (.inr (9, fs1))) (m3 : c ≤ MC) (m4 : s ≤ MS) (hc : call 105 [(.ref r_0), (.int x_1), (.int x_2), (.int x_3), (.int x_4)] h z 0 0 P) (K : ∀ (o : Option Value) (h2 : HP) (z2 : Nat), P o h2 z2 → ip sc call 106 MC MS Q 9 [some (.ref r_0), some (.int x_1), some (.int x_2), some (.int x_3), some (.int x_4), some (.int x_5), some (.int x_6), o_7, o_8] (o.toList ++ []) h2 z2 c s) : ip sc call 106 MC MS Q 0 [some (.ref r_0), some (.int x_1), some (.int x_2), some (.int x_3), some (.int x_4), some (.int x_5), some (.int x_6), o_7, o_8] [] h z c s := by
  refine jp_load (pc2 := 1) (n := 0) rfl rfl rfl rfl ?_
  refine jp_load (pc2 := 2) (n := 1) rfl rfl rfl rfl ?_
  refine jp_load (pc2 := 3) (n := 2) rfl rfl rfl rfl ?_
  refine jp_load (pc2 := 4) (n := 3) rfl rfl rfl rfl ?_
  refine jp_load (pc2 := 6) (n := 4) rfl rfl rfl rfl ?_
  exact jp_virt0 (pc2 := 9) (As := [(.int x_1), (.int x_2), (.int x_3), (.int x_4)]) (rest := []) rfl rfl rfl (Nat.le_of_ble_eq_true rfl) e2 m3 m4 hc rfl K
theorem b106_9 {r_0 : Nat} {x_1 : Int32} {x_2 : Int32} {o_3 : Option Value} {o_4 : Option Value} {x_5 : Int32} {x_6 : Int32} {o_7 : Option Value} {o_8 : Option Value} {sx_0 : Int32} {fs1 : List Value} {P : ipQ} (e2 : h r_0 = some (.inr (9, fs1))) (m3 : c ≤ MC) (m4 : s ≤ MS) (hc : call 105 [(.ref r_0), (.int x_1), (.int x_2), (.int x_5), (.int x_6)] h z 0 0 P) (K : ∀ (o : Option Value) (h2 : HP) (z2 : Nat), P o h2 z2 → ip sc call 106 MC MS Q 21 [some (.ref r_0), some (.int x_1), some (.int x_2), o_3, o_4, some (.int x_5), some (.int x_6), some (.int sx_0), o_8] (o.toList ++ []) h2 z2 c s) : ip sc call 106 MC MS Q 9 [some (.ref r_0), some (.int x_1), some (.int x_2), o_3, o_4, some (.int x_5), some (.int x_6), o_7, o_8] [(.int sx_0)] h z c s := by
  refine jp_store (pc2 := 11) (n := 7) rfl rfl ⟨rfl, rfl⟩ rfl (Nat.le_of_ble_eq_true rfl) ?_
  refine jp_load (pc2 := 12) (n := 0) rfl rfl rfl rfl ?_
  refine jp_load (pc2 := 13) (n := 1) rfl rfl rfl rfl ?_
  refine jp_load (pc2 := 14) (n := 2) rfl rfl rfl rfl ?_
  refine jp_load (pc2 := 16) (n := 5) rfl rfl rfl rfl ?_
  refine jp_load (pc2 := 18) (n := 6) rfl rfl rfl rfl ?_
  exact jp_virt0 (pc2 := 21) (As := [(.int x_1), (.int x_2), (.int x_5), (.int x_6)]) (rest := []) rfl rfl rfl (Nat.le_of_ble_eq_true rfl) e2 m3 m4 hc rfl K
theorem b106_21 {r_0 : Nat} {x_1 : Int32} {o_2 : Option Value} {o_3 : Option Value} {o_4 : Option Value} {o_5 : Option Value} {o_6 : Option Value} {x_7 : Int32} {o_8 : Option Value} {sx_0 : Int32} {fs1 : List Value} {q_fs1_0 : Nat} {n4 : Nat} {f5 : Nat → Int32} (e2 : h r_0 = some (.inr (9, fs1))) (e3 : fs1[0]? = some (.ref q_fs1_0)) (e6 : h q_fs1_0 = some (.inl (0, n4, .inl f5))) (b7 : vp_in ((x_1 + 4) + x_7) n4) (K1 : ¬ x_7 = sx_0 → ip sc call 106 MC MS Q 45 [some (.ref r_0), some (.int x_1), o_2, o_3, o_4, o_5, o_6, some (.int x_7), some (.int sx_0)] [(.int (f5 ((x_1 + 4) + x_7).toNatClampNeg))] h z c s) (K2 : ¬ (¬ x_7 = sx_0) → ip sc call 106 MC MS Q 41 [some (.ref r_0), some (.int x_1), o_2, o_3, o_4, o_5, o_6, some (.int x_7), some (.int sx_0)] [(.int (f5 ((x_1 + 4) + x_7).toNatClampNeg))] h z c s) : ip sc call 106 MC MS Q 21 [some (.ref r_0), some (.int x_1), o_2, o_3, o_4, o_5, o_6, some (.int x_7), o_8] [(.int sx_0)] h z c s := by
  refine jp_store (pc2 := 23) (n := 8) rfl rfl ⟨rfl, rfl⟩ rfl (Nat.le_of_ble_eq_true rfl) ?_
  refine jp_load (pc2 := 24) (n := 0) rfl rfl rfl rfl ?_
  refine jp_getf (pc2 := 27) rfl rfl e2 e3 ?_
  refine jp_load (pc2 := 28) (n := 1) rfl rfl rfl rfl ?_
  refine jp_con (pc2 := 29) (v := .int 4) rfl rfl rfl ?_
  refine jp_bin (pc2 := 30) (v := x_1 + 4) rfl rfl rfl ?_
  refine jp_load (pc2 := 32) (n := 7) rfl rfl rfl rfl ?_
  refine jp_bin (pc2 := 33) (v := (x_1 + 4) + x_7) rfl rfl rfl ?_
  refine jp_iald (pc2 := 34) rfl rfl e6 b7 ?_
  refine jp_load (pc2 := 36) (n := 7) rfl rfl rfl rfl ?_
  refine jp_load (pc2 := 38) (n := 8) rfl rfl rfl rfl ?_
  exact jp_icmp (pc2 := 41) rfl rfl K1 K2
theorem b106_41 {r_0 : Nat} {x_1 : Int32} {o_2 : Option Value} {o_3 : Option Value} {o_4 : Option Value} {o_5 : Option Value} {o_6 : Option Value} {o_7 : Option Value} {x_8 : Int32} {sx_0 : Int32}  (K : ip sc call 106 MC MS Q 46 [some (.ref r_0), some (.int x_1), o_2, o_3, o_4, o_5, o_6, o_7, some (.int x_8)] [(.int 1), (.int sx_0)] h z c s) : ip sc call 106 MC MS Q 41 [some (.ref r_0), some (.int x_1), o_2, o_3, o_4, o_5, o_6, o_7, some (.int x_8)] [(.int sx_0)] h z c s := by
  refine jp_con (pc2 := 42) (v := .int 1) rfl rfl rfl ?_
  refine ip_goto rfl ?_
  exact K
theorem b106_45 {r_0 : Nat} {x_1 : Int32} {o_2 : Option Value} {o_3 : Option Value} {o_4 : Option Value} {o_5 : Option Value} {o_6 : Option Value} {o_7 : Option Value} {x_8 : Int32} {sx_0 : Int32}  (K : ip sc call 106 MC MS Q 46 [some (.ref r_0), some (.int x_1), o_2, o_3, o_4, o_5, o_6, o_7, some (.int x_8)] [(.int 0), (.int sx_0)] h z c s) : ip sc call 106 MC MS Q 45 [some (.ref r_0), some (.int x_1), o_2, o_3, o_4, o_5, o_6, o_7, some (.int x_8)] [(.int sx_0)] h z c s := by
  refine jp_con (pc2 := 46) (v := .int 0) rfl rfl rfl ?_
  exact K
theorem b106_46 {r_0 : Nat} {x_1 : Int32} {o_2 : Option Value} {o_3 : Option Value} {o_4 : Option Value} {o_5 : Option Value} {o_6 : Option Value} {o_7 : Option Value} {x_8 : Int32} {sx_0 : Int32} {sx_1 : Int32}  (K1 : sx_0 ≤ sx_1 → ip sc call 106 MC MS Q 67 [some (.ref r_0), some (.int x_1), o_2, o_3, o_4, o_5, o_6, o_7, some (.int x_8)] [] h z c s) (K2 : ¬ (sx_0 ≤ sx_1) → ip sc call 106 MC MS Q 49 [some (.ref r_0), some (.int x_1), o_2, o_3, o_4, o_5, o_6, o_7, some (.int x_8)] [] h z c s) : ip sc call 106 MC MS Q 46 [some (.ref r_0), some (.int x_1), o_2, o_3, o_4, o_5, o_6, o_7, some (.int x_8)] [(.int sx_1), (.int sx_0)] h z c s := by
  exact jp_icmp (pc2 := 49) rfl rfl K1 K2
theorem b106_49 {r_0 : Nat} {x_1 : Int32} {o_2 : Option Value} {o_3 : Option Value} {o_4 : Option Value} {o_5 : Option Value} {o_6 : Option Value} {o_7 : Option Value} {x_8 : Int32} {fs1 : List Value} {q_fs1_0 : Nat} {n4 : Nat} {f5 : Nat → Int32} (e2 : h r_0 = some (.inr (9, fs1))) (e3 : fs1[0]? = some (.ref q_fs1_0)) (e6 : h q_fs1_0 = some (.inl (0, n4, .inl f5))) (b7 : vp_in ((x_1 + 4) + x_8) n4) (K1 : (f5 ((x_1 + 4) + x_8).toNatClampNeg) ≤ 0 → ip sc call 106 MC MS Q 67 [some (.ref r_0), some (.int x_1), o_2, o_3, o_4, o_5, o_6, o_7, some (.int x_8)] [] h z c s) (K2 : ¬ ((f5 ((x_1 + 4) + x_8).toNatClampNeg) ≤ 0) → ip sc call 106 MC MS Q 63 [some (.ref r_0), some (.int x_1), o_2, o_3, o_4, o_5, o_6, o_7, some (.int x_8)] [] h z c s) : ip sc call 106 MC MS Q 49 [some (.ref r_0), some (.int x_1), o_2, o_3, o_4, o_5, o_6, o_7, some (.int x_8)] [] h z c s := by
  refine jp_load (pc2 := 50) (n := 0) rfl rfl rfl rfl ?_
  refine jp_getf (pc2 := 53) rfl rfl e2 e3 ?_
  refine jp_load (pc2 := 54) (n := 1) rfl rfl rfl rfl ?_
  refine jp_con (pc2 := 55) (v := .int 4) rfl rfl rfl ?_
  refine jp_bin (pc2 := 56) (v := x_1 + 4) rfl rfl rfl ?_
  refine jp_load (pc2 := 58) (n := 8) rfl rfl rfl rfl ?_
  refine jp_bin (pc2 := 59) (v := (x_1 + 4) + x_8) rfl rfl rfl ?_
  refine jp_iald (pc2 := 60) rfl rfl e6 b7 ?_
  exact jp_if0 (pc2 := 63) rfl rfl K1 K2
theorem b106_63 {o_0 : Option Value} {o_1 : Option Value} {o_2 : Option Value} {o_3 : Option Value} {o_4 : Option Value} {o_5 : Option Value} {o_6 : Option Value} {o_7 : Option Value} {o_8 : Option Value}  (K : ip sc call 106 MC MS Q 68 [o_0, o_1, o_2, o_3, o_4, o_5, o_6, o_7, o_8] [(.int 1)] h z c s) : ip sc call 106 MC MS Q 63 [o_0, o_1, o_2, o_3, o_4, o_5, o_6, o_7, o_8] [] h z c s := by
  refine jp_con (pc2 := 64) (v := .int 1) rfl rfl rfl ?_
  refine ip_goto rfl ?_
  exact K
theorem b106_67 {o_0 : Option Value} {o_1 : Option Value} {o_2 : Option Value} {o_3 : Option Value} {o_4 : Option Value} {o_5 : Option Value} {o_6 : Option Value} {o_7 : Option Value} {o_8 : Option Value}  (K : ip sc call 106 MC MS Q 68 [o_0, o_1, o_2, o_3, o_4, o_5, o_6, o_7, o_8] [(.int 0)] h z c s) : ip sc call 106 MC MS Q 67 [o_0, o_1, o_2, o_3, o_4, o_5, o_6, o_7, o_8] [] h z c s := by
  refine jp_con (pc2 := 68) (v := .int 0) rfl rfl rfl ?_
  exact K
theorem b106_68 {o_0 : Option Value} {o_1 : Option Value} {o_2 : Option Value} {o_3 : Option Value} {o_4 : Option Value} {o_5 : Option Value} {o_6 : Option Value} {o_7 : Option Value} {o_8 : Option Value} {sx_0 : Int32} (t1 : narrow .boolean (.int sx_0) = .int sx_0) (q2 : Q (some (.int sx_0)) h z)  : ip sc call 106 MC MS Q 68 [o_0, o_1, o_2, o_3, o_4, o_5, o_6, o_7, o_8] [(.int sx_0)] h z c s := by
  exact ip_iret (st := []) rfl rfl t1 q2
theorem b107_0 {r_0 : Nat} {x_1 : Int32} {fs1 : List Value} {q_fs1_0 : Nat} {n4 : Nat} {f5 : Nat → Int32} (e2 : h r_0 = some (.inr (9, fs1))) (e3 : fs1[0]? = some (.ref q_fs1_0)) (e6 : h q_fs1_0 = some (.inl (0, n4, .inl f5))) (b7 : vp_in (x_1 + 0) n4) (n8 : r_0 ≠ q_fs1_0) (b9 : vp_in (x_1 + 1) n4) (b10 : vp_in (x_1 + 2) n4) (b11 : vp_in (x_1 + 3) n4) (q12 : Q none (hup (hup (hup (hup h q_fs1_0 (.inl (0, n4, .inl (upd f5 (x_1 + 0).toNatClampNeg 0)))) q_fs1_0 (.inl (0, n4, .inl (upd ((upd f5 (x_1 + 0).toNatClampNeg 0)) (x_1 + 1).toNatClampNeg 0)))) q_fs1_0 (.inl (0, n4, .inl (upd ((upd ((upd f5 (x_1 + 0).toNatClampNeg 0)) (x_1 + 1).toNatClampNeg 0)) (x_1 + 2).toNatClampNeg 0)))) q_fs1_0 (.inl (0, n4, .inl (upd ((upd ((upd ((upd f5 (x_1 + 0).toNatClampNeg 0)) (x_1 + 1).toNatClampNeg 0)) (x_1 + 2).toNatClampNeg 0)) (x_1 + 3).toNatClampNeg 0)))) z)  : ip sc call 107 MC MS Q 0 [some (.ref r_0), some (.int x_1)] [] h z c s := by
  refine jp_load (pc2 := 1) (n := 0) rfl rfl rfl rfl ?_
  refine jp_getf (pc2 := 4) rfl rfl e2 e3 ?_
  refine jp_load (pc2 := 5) (n := 1) rfl rfl rfl rfl ?_
  refine jp_con (pc2 := 6) (v := .int 0) rfl rfl rfl ?_
  refine jp_bin (pc2 := 7) (v := x_1 + 0) rfl rfl rfl ?_
  refine jp_con (pc2 := 8) (v := .int 0) rfl rfl rfl ?_
  refine jp_iast (pc2 := 9) rfl rfl e6 b7 ?_
  refine jp_load (pc2 := 10) (n := 0) rfl rfl rfl rfl ?_
  refine jp_getf (pc2 := 13) rfl rfl (hup_ne n8 e2) e3 ?_
  refine jp_load (pc2 := 14) (n := 1) rfl rfl rfl rfl ?_
  refine jp_con (pc2 := 15) (v := .int 1) rfl rfl rfl ?_
  refine jp_bin (pc2 := 16) (v := x_1 + 1) rfl rfl rfl ?_
  refine jp_con (pc2 := 17) (v := .int 0) rfl rfl rfl ?_
  refine jp_iast (pc2 := 18) rfl rfl hup_eq b9 ?_
  refine jp_load (pc2 := 19) (n := 0) rfl rfl rfl rfl ?_
  refine jp_getf (pc2 := 22) rfl rfl (hup_ne n8 (hup_ne n8 e2)) e3 ?_
  refine jp_load (pc2 := 23) (n := 1) rfl rfl rfl rfl ?_
  refine jp_con (pc2 := 24) (v := .int 2) rfl rfl rfl ?_
  refine jp_bin (pc2 := 25) (v := x_1 + 2) rfl rfl rfl ?_
  refine jp_con (pc2 := 26) (v := .int 0) rfl rfl rfl ?_
  refine jp_iast (pc2 := 27) rfl rfl hup_eq b10 ?_
  refine jp_load (pc2 := 28) (n := 0) rfl rfl rfl rfl ?_
  refine jp_getf (pc2 := 31) rfl rfl (hup_ne n8 (hup_ne n8 (hup_ne n8 e2))) e3 ?_
  refine jp_load (pc2 := 32) (n := 1) rfl rfl rfl rfl ?_
  refine jp_con (pc2 := 33) (v := .int 3) rfl rfl rfl ?_
  refine jp_bin (pc2 := 34) (v := x_1 + 3) rfl rfl rfl ?_
  refine jp_con (pc2 := 35) (v := .int 0) rfl rfl rfl ?_
  refine jp_iast (pc2 := 36) rfl rfl hup_eq b11 ?_
  exact ip_vret (st := []) rfl rfl q12
set_option maxRecDepth 100000 in
theorem b108_0 {r_0 : Nat} {x_1 : Int32} {x_2 : Int32} {x_3 : Int32} {x_4 : Int32} {x_5 : Int32} {x_6 : Int32} {x_7 : Int32} {x_8 : Int32} {o_9 : Option Value} {o_10 : Option Value} {o_11 : Option Value} {o_12 : Option Value} {o_13 : Option Value} {o_14 : Option Value} {o_15 : Option Value} {fs1 : List Value} {P : ipQ} (e2 : h r_0 = some (.inr (9, fs1))) (m3 : c ≤ MC) (m4 : s ≤ MS) (hc : call 105 [(.ref r_0), (.int x_1), (.int x_3), (.int x_4), (.int x_5)] h z 0 0 P) (K : ∀ (o : Option Value) (h2 : HP) (z2 : Nat), P o h2 z2 → ip sc call 108 MC MS Q 10 [some (.ref r_0), some (.int x_1), some (.int x_2), some (.int x_3), some (.int x_4), some (.int x_5), some (.int x_6), some (.int x_7), some (.int x_8), o_9, o_10, o_11, o_12, o_13, o_14, o_15] (o.toList ++ []) h2 z2 c s) : ip sc call 108 MC MS Q 0 [some (.ref r_0), some (.int x_1), some (.int x_2), some (.int x_3), some (.int x_4), some (.int x_5), some (.int x_6), some (.int x_7), some (.int x_8), o_9, o_10, o_11, o_12, o_13, o_14, o_15] [] h z c s := by
  refine jp_load (pc2 := 1) (n := 0) rfl rfl rfl rfl ?_
  refine jp_load (pc2 := 2) (n := 1) rfl rfl rfl rfl ?_
  refine jp_load (pc2 := 3) (n := 3) rfl rfl rfl rfl ?_
  refine jp_load (pc2 := 5) (n := 4) rfl rfl rfl rfl ?_
  refine jp_load (pc2 := 7) (n := 5) rfl rfl rfl rfl ?_
  exact jp_virt0 (pc2 := 10) (As := [(.int x_1), (.int x_3), (.int x_4), (.int x_5)]) (rest := []) rfl rfl rfl (Nat.le_of_ble_eq_true rfl) e2 m3 m4 hc rfl K
set_option maxRecDepth 100000 in
theorem b108_10 {r_0 : Nat} {x_1 : Int32} {x_2 : Int32} {x_3 : Int32} {x_4 : Int32} {x_5 : Int32} {x_6 : Int32} {x_7 : Int32} {x_8 : Int32} {o_9 : Option Value} {o_10 : Option Value} {o_11 : Option Value} {o_12 : Option Value} {o_13 : Option Value} {o_14 : Option Value} {o_15 : Option Value} {sx_0 : Int32} {fs1 : List Value} {P : ipQ} (e2 : h r_0 = some (.inr (9, fs1))) (m3 : c ≤ MC) (m4 : s ≤ MS) (hc : call 105 [(.ref r_0), (.int x_1), (.int x_3), (.int x_6), (.int x_7)] h z 0 0 P) (K : ∀ (o : Option Value) (h2 : HP) (z2 : Nat), P o h2 z2 → ip sc call 108 MC MS Q 22 [some (.ref r_0), some (.int x_1), some (.int x_2), some (.int x_3), some (.int x_4), some (.int x_5), some (.int x_6), some (.int x_7), some (.int x_8), some (.int sx_0), o_10, o_11, o_12, o_13, o_14, o_15] (o.toList ++ []) h2 z2 c s) : ip sc call 108 MC MS Q 10 [some (.ref r_0), some (.int x_1), some (.int x_2), some (.int x_3), some (.int x_4), some (.int x_5), some (.int x_6), some (.int x_7), some (.int x_8), o_9, o_10, o_11, o_12, o_13, o_14, o_15] [(.int sx_0)] h z c s := by
  refine jp_store (pc2 := 12) (n := 9) rfl rfl ⟨rfl, rfl⟩ rfl (Nat.le_of_ble_eq_true rfl) ?_
  refine jp_load (pc2 := 13) (n := 0) rfl rfl rfl rfl ?_
  refine jp_load (pc2 := 14) (n := 1) rfl rfl rfl rfl ?_
  refine jp_load (pc2 := 15) (n := 3) rfl rfl rfl rfl ?_
  refine jp_load (pc2 := 17) (n := 6) rfl rfl rfl rfl ?_
  refine jp_load (pc2 := 19) (n := 7) rfl rfl rfl rfl ?_
  exact jp_virt0 (pc2 := 22) (As := [(.int x_1), (.int x_3), (.int x_6), (.int x_7)]) (rest := []) rfl rfl rfl (Nat.le_of_ble_eq_true rfl) e2 m3 m4 hc rfl K
set_option maxRecDepth 100000 in
theorem b108_22 {r_0 : Nat} {x_1 : Int32} {x_2 : Int32} {x_3 : Int32} {x_4 : Int32} {x_5 : Int32} {x_6 : Int32} {x_7 : Int32} {x_8 : Int32} {x_9 : Int32} {o_10 : Option Value} {o_11 : Option Value} {o_12 : Option Value} {o_13 : Option Value} {o_14 : Option Value} {o_15 : Option Value} {sx_0 : Int32} {fs1 : List Value} {q_fs1_0 : Nat} {n4 : Nat} {f5 : Nat → Int32} {P : ipQ} (e2 : h r_0 = some (.inr (9, fs1))) (e3 : fs1[0]? = some (.ref q_fs1_0)) (e6 : h q_fs1_0 = some (.inl (0, n4, .inl f5))) (b7 : vp_in (x_1 + 0) n4) (m8 : c ≤ MC) (m9 : s ≤ MS) (hc : call 107 [(.ref r_0), (.int x_2)] h z 0 0 P) (K : ∀ (o : Option Value) (h2 : HP) (z2 : Nat), P o h2 z2 → ip sc call 108 MC MS Q 39 [some (.ref r_0), some (.int x_1), some (.int x_2), some (.int x_3), some (.int x_4), some (.int x_5), some (.int x_6), some (.int x_7), some (.int x_8), some (.int x_9), some (.int sx_0), some (.int (f5 (x_1 + 0).toNatClampNeg)), o_12, o_13, o_14, o_15] (o.toList ++ []) h2 z2 c s) : ip sc call 108 MC MS Q 22 [some (.ref r_0), some (.int x_1), some (.int x_2), some (.int x_3), some (.int x_4), some (.int x_5), some (.int x_6), some (.int x_7), some (.int x_8), some (.int x_9), o_10, o_11, o_12, o_13, o_14, o_15] [(.int sx_0)] h z c s := by
  refine jp_store (pc2 := 24) (n := 10) rfl rfl ⟨rfl, rfl⟩ rfl (Nat.le_of_ble_eq_true rfl) ?_
  refine jp_load (pc2 := 25) (n := 0) rfl rfl rfl rfl ?_
  refine jp_getf (pc2 := 28) rfl rfl e2 e3 ?_
  refine jp_load (pc2 := 29) (n := 1) rfl rfl rfl rfl ?_
  refine jp_con (pc2 := 30) (v := .int 0) rfl rfl rfl ?_
  refine jp_bin (pc2 := 31) (v := x_1 + 0) rfl rfl rfl ?_
  refine jp_iald (pc2 := 32) rfl rfl e6 b7 ?_
  refine jp_store (pc2 := 34) (n := 11) rfl rfl ⟨rfl, rfl⟩ rfl (Nat.le_of_ble_eq_true rfl) ?_
  refine jp_load (pc2 := 35) (n := 0) rfl rfl rfl rfl ?_
  refine jp_load (pc2 := 36) (n := 2) rfl rfl rfl rfl ?_
  exact jp_virt0 (pc2 := 39) (As := [(.int x_2)]) (rest := []) rfl rfl rfl (Nat.le_of_ble_eq_true rfl) e2 m8 m9 hc rfl K
set_option maxRecDepth 100000 in
theorem b108_39 {r_0 : Nat} {x_1 : Int32} {x_2 : Int32} {x_3 : Int32} {x_4 : Int32} {x_5 : Int32} {x_6 : Int32} {x_7 : Int32} {x_8 : Int32} {x_9 : Int32} {x_10 : Int32} {x_11 : Int32} {o_12 : Option Value} {o_13 : Option Value} {o_14 : Option Value} {o_15 : Option Value} {fs1 : List Value} {q_fs1_0 : Nat} {n4 : Nat} {f5 : Nat → Int32} (e2 : h r_0 = some (.inr (9, fs1))) (e3 : fs1[0]? = some (.ref q_fs1_0)) (e6 : h q_fs1_0 = some (.inl (0, n4, .inl f5))) (b7 : vp_in (x_2 + 0) n4) (K : ip sc call 108 MC MS Q 54 [some (.ref r_0), some (.int x_1), some (.int x_2), some (.int x_3), some (.int x_4), some (.int x_5), some (.int x_6), some (.int x_7), some (.int x_8), some (.int x_9), some (.int x_10), some (.int x_11), some (.int 0), o_13, o_14, o_15] [] (hup h q_fs1_0 (.inl (0, n4, .inl (upd f5 (x_2 + 0).toNatClampNeg (x_11 + 1))))) z c s) : ip sc call 108 MC MS Q 39 [some (.ref r_0), some (.int x_1), some (.int x_2), some (.int x_3), some (.int x_4), some (.int x_5), some (.int x_6), some (.int x_7), some (.int x_8), some (.int x_9), some (.int x_10), some (.int x_11), o_12, o_13, o_14, o_15] [] h z c s := by
  refine jp_load (pc2 := 40) (n := 0) rfl rfl rfl rfl ?_
  refine jp_getf (pc2 := 43) rfl rfl e2 e3 ?_
  refine jp_load (pc2 := 44) (n := 2) rfl rfl rfl rfl ?_
  refine jp_con (pc2 := 45) (v := .int 0) rfl rfl rfl ?_
  refine jp_bin (pc2 := 46) (v := x_2 + 0) rfl rfl rfl ?_
  refine jp_load (pc2 := 48) (n := 11) rfl rfl rfl rfl ?_
  refine jp_con (pc2 := 49) (v := .int 1) rfl rfl rfl ?_
  refine jp_bin (pc2 := 50) (v := x_11 + 1) rfl rfl rfl ?_
  refine jp_iast (pc2 := 51) rfl rfl e6 b7 ?_
  refine jp_con (pc2 := 52) (v := .int 0) rfl rfl rfl ?_
  refine jp_store (pc2 := 54) (n := 12) rfl rfl ⟨rfl, rfl⟩ rfl (Nat.le_of_ble_eq_true rfl) ?_
  exact K
set_option maxRecDepth 100000 in
theorem b108_54 {r_0 : Nat} {x_1 : Int32} {x_2 : Int32} {x_3 : Int32} {x_4 : Int32} {x_5 : Int32} {x_6 : Int32} {x_7 : Int32} {x_8 : Int32} {x_9 : Int32} {x_10 : Int32} {x_11 : Int32} {x_12 : Int32} {o_13 : Option Value} {o_14 : Option Value} {o_15 : Option Value}  (K1 : x_11 ≤ x_12 → ip sc call 108 MC MS Q 115 [some (.ref r_0), some (.int x_1), some (.int x_2), some (.int x_3), some (.int x_4), some (.int x_5), some (.int x_6), some (.int x_7), some (.int x_8), some (.int x_9), some (.int x_10), some (.int x_11), some (.int x_12), o_13, o_14, o_15] [] h z c s) (K2 : ¬ (x_11 ≤ x_12) → ip sc call 108 MC MS Q 61 [some (.ref r_0), some (.int x_1), some (.int x_2), some (.int x_3), some (.int x_4), some (.int x_5), some (.int x_6), some (.int x_7), some (.int x_8), some (.int x_9), some (.int x_10), some (.int x_11), some (.int x_12), o_13, o_14, o_15] [] h z c s) : ip sc call 108 MC MS Q 54 [some (.ref r_0), some (.int x_1), some (.int x_2), some (.int x_3), some (.int x_4), some (.int x_5), some (.int x_6), some (.int x_7), some (.int x_8), some (.int x_9), some (.int x_10), some (.int x_11), some (.int x_12), o_13, o_14, o_15] [] h z c s := by
  refine jp_load (pc2 := 56) (n := 12) rfl rfl rfl rfl ?_
  refine jp_load (pc2 := 58) (n := 11) rfl rfl rfl rfl ?_
  exact jp_icmp (pc2 := 61) rfl rfl K1 K2
set_option maxRecDepth 100000 in
theorem b108_61 {r_0 : Nat} {x_1 : Int32} {x_2 : Int32} {x_3 : Int32} {x_4 : Int32} {x_5 : Int32} {x_6 : Int32} {x_7 : Int32} {x_8 : Int32} {x_9 : Int32} {x_10 : Int32} {x_11 : Int32} {x_12 : Int32} {o_13 : Option Value} {o_14 : Option Value} {o_15 : Option Value} {fs1 : List Value} {q_fs1_0 : Nat} {n4 : Nat} {f5 : Nat → Int32} (e2 : h r_0 = some (.inr (9, fs1))) (e3 : fs1[0]? = some (.ref q_fs1_0)) (e6 : h q_fs1_0 = some (.inl (0, n4, .inl f5))) (b7 : vp_in ((x_1 + 4) + x_12) n4) (K1 : ¬ x_12 = x_9 → ip sc call 108 MC MS Q 93 [some (.ref r_0), some (.int x_1), some (.int x_2), some (.int x_3), some (.int x_4), some (.int x_5), some (.int x_6), some (.int x_7), some (.int x_8), some (.int x_9), some (.int x_10), some (.int x_11), some (.int x_12), o_13, o_14, o_15] [(.int (f5 ((x_1 + 4) + x_12).toNatClampNeg)), (.int ((x_2 + 4) + x_12)), (.ref q_fs1_0)] h z c s) (K2 : ¬ (¬ x_12 = x_9) → ip sc call 108 MC MS Q 89 [some (.ref r_0), some (.int x_1), some (.int x_2), some (.int x_3), some (.int x_4), some (.int x_5), some (.int x_6), some (.int x_7), some (.int x_8), some (.int x_9), some (.int x_10), some (.int x_11), some (.int x_12), o_13, o_14, o_15] [(.int (f5 ((x_1 + 4) + x_12).toNatClampNeg)), (.int ((x_2 + 4) + x_12)), (.ref q_fs1_0)] h z c s) : ip sc call 108 MC MS Q 61 [some (.ref r_0), some (.int x_1), some (.int x_2), some (.int x_3), some (.int x_4), some (.int x_5), some (.int x_6), some (.int x_7), some (.int x_8), some (.int x_9), some (.int x_10), some (.int x_11), some (.int x_12), o_13, o_14, o_15] [] h z c s := by
  refine jp_load (pc2 := 62) (n := 0) rfl rfl rfl rfl ?_
  refine jp_getf (pc2 := 65) rfl rfl e2 e3 ?_
  refine jp_load (pc2 := 66) (n := 2) rfl rfl rfl rfl ?_
  refine jp_con (pc2 := 67) (v := .int 4) rfl rfl rfl ?_
  refine jp_bin (pc2 := 68) (v := x_2 + 4) rfl rfl rfl ?_
  refine jp_load (pc2 := 70) (n := 12) rfl rfl rfl rfl ?_
  refine jp_bin (pc2 := 71) (v := (x_2 + 4) + x_12) rfl rfl rfl ?_
  refine jp_load (pc2 := 72) (n := 0) rfl rfl rfl rfl ?_
  refine jp_getf (pc2 := 75) rfl rfl e2 e3 ?_
  refine jp_load (pc2 := 76) (n := 1) rfl rfl rfl rfl ?_
  refine jp_con (pc2 := 77) (v := .int 4) rfl rfl rfl ?_
  refine jp_bin (pc2 := 78) (v := x_1 + 4) rfl rfl rfl ?_
  refine jp_load (pc2 := 80) (n := 12) rfl rfl rfl rfl ?_
  refine jp_bin (pc2 := 81) (v := (x_1 + 4) + x_12) rfl rfl rfl ?_
  refine jp_iald (pc2 := 82) rfl rfl e6 b7 ?_
  refine jp_load (pc2 := 84) (n := 12) rfl rfl rfl rfl ?_
  refine jp_load (pc2 := 86) (n := 9) rfl rfl rfl rfl ?_
  exact jp_icmp (pc2 := 89) rfl rfl K1 K2
set_option maxRecDepth 100000 in
theorem b108_89 {r_0 : Nat} {x_1 : Int32} {x_2 : Int32} {x_3 : Int32} {x_4 : Int32} {x_5 : Int32} {x_6 : Int32} {x_7 : Int32} {x_8 : Int32} {x_9 : Int32} {x_10 : Int32} {x_11 : Int32} {x_12 : Int32} {o_13 : Option Value} {o_14 : Option Value} {o_15 : Option Value} {sr_0 : Nat} {sx_1 : Int32} {sx_2 : Int32}  (K : ip sc call 108 MC MS Q 94 [some (.ref r_0), some (.int x_1), some (.int x_2), some (.int x_3), some (.int x_4), some (.int x_5), some (.int x_6), some (.int x_7), some (.int x_8), some (.int x_9), some (.int x_10), some (.int x_11), some (.int x_12), o_13, o_14, o_15] [(.int 1), (.int sx_2), (.int sx_1), (.ref sr_0)] h z c s) : ip sc call 108 MC MS Q 89 [some (.ref r_0), some (.int x_1), some (.int x_2), some (.int x_3), some (.int x_4), some (.int x_5), some (.int x_6), some (.int x_7), some (.int x_8), some (.int x_9), some (.int x_10), some (.int x_11), some (.int x_12), o_13, o_14, o_15] [(.int sx_2), (.int sx_1), (.ref sr_0)] h z c s := by
  refine jp_con (pc2 := 90) (v := .int 1) rfl rfl rfl ?_
  refine ip_goto rfl ?_
  exact K
set_option maxRecDepth 100000 in
theorem b108_93 {r_0 : Nat} {x_1 : Int32} {x_2 : Int32} {x_3 : Int32} {x_4 : Int32} {x_5 : Int32} {x_6 : Int32} {x_7 : Int32} {x_8 : Int32} {x_9 : Int32} {x_10 : Int32} {x_11 : Int32} {x_12 : Int32} {o_13 : Option Value} {o_14 : Option Value} {o_15 : Option Value} {sr_0 : Nat} {sx_1 : Int32} {sx_2 : Int32}  (K : ip sc call 108 MC MS Q 94 [some (.ref r_0), some (.int x_1), some (.int x_2), some (.int x_3), some (.int x_4), some (.int x_5), some (.int x_6), some (.int x_7), some (.int x_8), some (.int x_9), some (.int x_10), some (.int x_11), some (.int x_12), o_13, o_14, o_15] [(.int 0), (.int sx_2), (.int sx_1), (.ref sr_0)] h z c s) : ip sc call 108 MC MS Q 93 [some (.ref r_0), some (.int x_1), some (.int x_2), some (.int x_3), some (.int x_4), some (.int x_5), some (.int x_6), some (.int x_7), some (.int x_8), some (.int x_9), some (.int x_10), some (.int x_11), some (.int x_12), o_13, o_14, o_15] [(.int sx_2), (.int sx_1), (.ref sr_0)] h z c s := by
  refine jp_con (pc2 := 94) (v := .int 0) rfl rfl rfl ?_
  exact K
set_option maxRecDepth 100000 in
theorem b108_94 {r_0 : Nat} {x_1 : Int32} {x_2 : Int32} {x_3 : Int32} {x_4 : Int32} {x_5 : Int32} {x_6 : Int32} {x_7 : Int32} {x_8 : Int32} {x_9 : Int32} {x_10 : Int32} {x_11 : Int32} {x_12 : Int32} {o_13 : Option Value} {o_14 : Option Value} {o_15 : Option Value} {sr_0 : Nat} {sx_1 : Int32} {sx_2 : Int32} {sx_3 : Int32}  (K1 : ¬ x_12 = x_10 → ip sc call 108 MC MS Q 106 [some (.ref r_0), some (.int x_1), some (.int x_2), some (.int x_3), some (.int x_4), some (.int x_5), some (.int x_6), some (.int x_7), some (.int x_8), some (.int x_9), some (.int x_10), some (.int x_11), some (.int x_12), o_13, o_14, o_15] [(.int (sx_2 - sx_3)), (.int sx_1), (.ref sr_0)] h z c s) (K2 : ¬ (¬ x_12 = x_10) → ip sc call 108 MC MS Q 102 [some (.ref r_0), some (.int x_1), some (.int x_2), some (.int x_3), some (.int x_4), some (.int x_5), some (.int x_6), some (.int x_7), some (.int x_8), some (.int x_9), some (.int x_10), some (.int x_11), some (.int x_12), o_13, o_14, o_15] [(.int (sx_2 - sx_3)), (.int sx_1), (.ref sr_0)] h z c s) : ip sc call 108 MC MS Q 94 [some (.ref r_0), some (.int x_1), some (.int x_2), some (.int x_3), some (.int x_4), some (.int x_5), some (.int x_6), some (.int x_7), some (.int x_8), some (.int x_9), some (.int x_10), some (.int x_11), some (.int x_12), o_13, o_14, o_15] [(.int sx_3), (.int sx_2), (.int sx_1), (.ref sr_0)] h z c s := by
  refine jp_bin (pc2 := 95) (v := sx_2 - sx_3) rfl rfl rfl ?_
  refine jp_load (pc2 := 97) (n := 12) rfl rfl rfl rfl ?_
  refine jp_load (pc2 := 99) (n := 10) rfl rfl rfl rfl ?_
  exact jp_icmp (pc2 := 102) rfl rfl K1 K2
set_option maxRecDepth 100000 in
theorem b108_102 {r_0 : Nat} {x_1 : Int32} {x_2 : Int32} {x_3 : Int32} {x_4 : Int32} {x_5 : Int32} {x_6 : Int32} {x_7 : Int32} {x_8 : Int32} {x_9 : Int32} {x_10 : Int32} {x_11 : Int32} {x_12 : Int32} {o_13 : Option Value} {o_14 : Option Value} {o_15 : Option Value} {sr_0 : Nat} {sx_1 : Int32} {sx_2 : Int32}  (K : ip sc call 108 MC MS Q 107 [some (.ref r_0), some (.int x_1), some (.int x_2), some (.int x_3), some (.int x_4), some (.int x_5), some (.int x_6), some (.int x_7), some (.int x_8), some (.int x_9), some (.int x_10), some (.int x_11), some (.int x_12), o_13, o_14, o_15] [(.int 1), (.int sx_2), (.int sx_1), (.ref sr_0)] h z c s) : ip sc call 108 MC MS Q 102 [some (.ref r_0), some (.int x_1), some (.int x_2), some (.int x_3), some (.int x_4), some (.int x_5), some (.int x_6), some (.int x_7), some (.int x_8), some (.int x_9), some (.int x_10), some (.int x_11), some (.int x_12), o_13, o_14, o_15] [(.int sx_2), (.int sx_1), (.ref sr_0)] h z c s := by
  refine jp_con (pc2 := 103) (v := .int 1) rfl rfl rfl ?_
  refine ip_goto rfl ?_
  exact K
set_option maxRecDepth 100000 in
theorem b108_106 {r_0 : Nat} {x_1 : Int32} {x_2 : Int32} {x_3 : Int32} {x_4 : Int32} {x_5 : Int32} {x_6 : Int32} {x_7 : Int32} {x_8 : Int32} {x_9 : Int32} {x_10 : Int32} {x_11 : Int32} {x_12 : Int32} {o_13 : Option Value} {o_14 : Option Value} {o_15 : Option Value} {sr_0 : Nat} {sx_1 : Int32} {sx_2 : Int32}  (K : ip sc call 108 MC MS Q 107 [some (.ref r_0), some (.int x_1), some (.int x_2), some (.int x_3), some (.int x_4), some (.int x_5), some (.int x_6), some (.int x_7), some (.int x_8), some (.int x_9), some (.int x_10), some (.int x_11), some (.int x_12), o_13, o_14, o_15] [(.int 0), (.int sx_2), (.int sx_1), (.ref sr_0)] h z c s) : ip sc call 108 MC MS Q 106 [some (.ref r_0), some (.int x_1), some (.int x_2), some (.int x_3), some (.int x_4), some (.int x_5), some (.int x_6), some (.int x_7), some (.int x_8), some (.int x_9), some (.int x_10), some (.int x_11), some (.int x_12), o_13, o_14, o_15] [(.int sx_2), (.int sx_1), (.ref sr_0)] h z c s := by
  refine jp_con (pc2 := 107) (v := .int 0) rfl rfl rfl ?_
  exact K
set_option maxRecDepth 100000 in
theorem b108_107 {r_0 : Nat} {x_1 : Int32} {x_2 : Int32} {x_3 : Int32} {x_4 : Int32} {x_5 : Int32} {x_6 : Int32} {x_7 : Int32} {x_8 : Int32} {x_9 : Int32} {x_10 : Int32} {x_11 : Int32} {x_12 : Int32} {o_13 : Option Value} {o_14 : Option Value} {o_15 : Option Value} {sr_0 : Nat} {sx_1 : Int32} {sx_2 : Int32} {sx_3 : Int32} {n1 : Nat} {f2 : Nat → Int32} (e3 : h sr_0 = some (.inl (0, n1, .inl f2))) (b4 : vp_in sx_1 n1) (K : ip sc call 108 MC MS Q 54 [some (.ref r_0), some (.int x_1), some (.int x_2), some (.int x_3), some (.int x_4), some (.int x_5), some (.int x_6), some (.int x_7), some (.int x_8), some (.int x_9), some (.int x_10), some (.int x_11), some (.int (x_12 + 1)), o_13, o_14, o_15] [] (hup h sr_0 (.inl (0, n1, .inl (upd f2 sx_1.toNatClampNeg (sx_2 - sx_3))))) z c s) : ip sc call 108 MC MS Q 107 [some (.ref r_0), some (.int x_1), some (.int x_2), some (.int x_3), some (.int x_4), some (.int x_5), some (.int x_6), some (.int x_7), some (.int x_8), some (.int x_9), some (.int x_10), some (.int x_11), some (.int x_12), o_13, o_14, o_15] [(.int sx_3), (.int sx_2), (.int sx_1), (.ref sr_0)] h z c s := by
  refine jp_bin (pc2 := 108) (v := sx_2 - sx_3) rfl rfl rfl ?_
  refine jp_iast (pc2 := 109) rfl rfl e3 b4 ?_
  refine jp_iinc (pc2 := 112) (n := 12) (v := x_12 + 1) rfl rfl rfl rfl rfl ?_
  refine ip_goto rfl ?_
  exact K
set_option maxRecDepth 100000 in
theorem b108_115 {r_0 : Nat} {x_1 : Int32} {x_2 : Int32} {x_3 : Int32} {x_4 : Int32} {x_5 : Int32} {x_6 : Int32} {x_7 : Int32} {x_8 : Int32} {o_9 : Option Value} {o_10 : Option Value} {x_11 : Int32} {o_12 : Option Value} {o_13 : Option Value} {o_14 : Option Value} {o_15 : Option Value} {fs1 : List Value} {q_fs1_0 : Nat} {n4 : Nat} {f5 : Nat → Int32} (e2 : h r_0 = some (.inr (9, fs1))) (e3 : fs1[0]? = some (.ref q_fs1_0)) (e6 : h q_fs1_0 = some (.inl (0, n4, .inl f5))) (b7 : vp_in ((x_2 + 4) + x_11) n4) (K : ip sc call 108 MC MS Q 133 [some (.ref r_0), some (.int x_1), some (.int x_2), some (.int x_3), some (.int x_4), some (.int x_5), some (.int x_6), some (.int x_7), some (.int x_8), o_9, o_10, some (.int x_11), some (.int 0), some (.int 0), o_14, o_15] [] (hup h q_fs1_0 (.inl (0, n4, .inl (upd f5 ((x_2 + 4) + x_11).toNatClampNeg 1)))) z c s) : ip sc call 108 MC MS Q 115 [some (.ref r_0), some (.int x_1), some (.int x_2), some (.int x_3), some (.int x_4), some (.int x_5), some (.int x_6), some (.int x_7), some (.int x_8), o_9, o_10, some (.int x_11), o_12, o_13, o_14, o_15] [] h z c s := by
  refine jp_load (pc2 := 116) (n := 0) rfl rfl rfl rfl ?_
  refine jp_getf (pc2 := 119) rfl rfl e2 e3 ?_
  refine jp_load (pc2 := 120) (n := 2) rfl rfl rfl rfl ?_
  refine jp_con (pc2 := 121) (v := .int 4) rfl rfl rfl ?_
  refine jp_bin (pc2 := 122) (v := x_2 + 4) rfl rfl rfl ?_
  refine jp_load (pc2 := 124) (n := 11) rfl rfl rfl rfl ?_
  refine jp_bin (pc2 := 125) (v := (x_2 + 4) + x_11) rfl rfl rfl ?_
  refine jp_con (pc2 := 126) (v := .int 1) rfl rfl rfl ?_
  refine jp_iast (pc2 := 127) rfl rfl e6 b7 ?_
  refine jp_con (pc2 := 128) (v := .int 0) rfl rfl rfl ?_
  refine jp_store (pc2 := 130) (n := 12) rfl rfl ⟨rfl, rfl⟩ rfl (Nat.le_of_ble_eq_true rfl) ?_
  refine jp_con (pc2 := 131) (v := .int 0) rfl rfl rfl ?_
  refine jp_store (pc2 := 133) (n := 13) rfl rfl ⟨rfl, rfl⟩ rfl (Nat.le_of_ble_eq_true rfl) ?_
  exact K
set_option maxRecDepth 100000 in
theorem b108_133 {r_0 : Nat} {x_1 : Int32} {x_2 : Int32} {x_3 : Int32} {x_4 : Int32} {x_5 : Int32} {x_6 : Int32} {x_7 : Int32} {x_8 : Int32} {o_9 : Option Value} {o_10 : Option Value} {x_11 : Int32} {x_12 : Int32} {x_13 : Int32} {o_14 : Option Value} {o_15 : Option Value} {fs1 : List Value} {q_fs1_0 : Nat} {n4 : Nat} {f5 : Nat → Int32} (e2 : h r_0 = some (.inr (9, fs1))) (e3 : fs1[0]? = some (.ref q_fs1_0)) (e6 : h q_fs1_0 = some (.inl (0, n4, .inl f5))) (b7 : vp_in (x_1 + 1) n4) (K1 : (f5 (x_1 + 1).toNatClampNeg) ≤ x_13 → ip sc call 108 MC MS Q 264 [some (.ref r_0), some (.int x_1), some (.int x_2), some (.int x_3), some (.int x_4), some (.int x_5), some (.int x_6), some (.int x_7), some (.int x_8), o_9, o_10, some (.int x_11), some (.int x_12), some (.int x_13), o_14, o_15] [] h z c s) (K2 : ¬ ((f5 (x_1 + 1).toNatClampNeg) ≤ x_13) → ip sc call 108 MC MS Q 146 [some (.ref r_0), some (.int x_1), some (.int x_2), some (.int x_3), some (.int x_4), some (.int x_5), some (.int x_6), some (.int x_7), some (.int x_8), o_9, o_10, some (.int x_11), some (.int x_12), some (.int x_13), o_14, o_15] [] h z c s) : ip sc call 108 MC MS Q 133 [some (.ref r_0), some (.int x_1), some (.int x_2), some (.int x_3), some (.int x_4), some (.int x_5), some (.int x_6), some (.int x_7), some (.int x_8), o_9, o_10, some (.int x_11), some (.int x_12), some (.int x_13), o_14, o_15] [] h z c s := by
  refine jp_load (pc2 := 135) (n := 13) rfl rfl rfl rfl ?_
  refine jp_load (pc2 := 136) (n := 0) rfl rfl rfl rfl ?_
  refine jp_getf (pc2 := 139) rfl rfl e2 e3 ?_
  refine jp_load (pc2 := 140) (n := 1) rfl rfl rfl rfl ?_
  refine jp_con (pc2 := 141) (v := .int 1) rfl rfl rfl ?_
  refine jp_bin (pc2 := 142) (v := x_1 + 1) rfl rfl rfl ?_
  refine jp_iald (pc2 := 143) rfl rfl e6 b7 ?_
  exact jp_icmp (pc2 := 146) rfl rfl K1 K2
set_option maxRecDepth 100000 in
theorem b108_146 {r_0 : Nat} {x_1 : Int32} {x_2 : Int32} {x_3 : Int32} {x_4 : Int32} {x_5 : Int32} {x_6 : Int32} {x_7 : Int32} {x_8 : Int32} {o_9 : Option Value} {o_10 : Option Value} {x_11 : Int32} {x_12 : Int32} {x_13 : Int32} {o_14 : Option Value} {o_15 : Option Value} {fs1 : List Value} {P : ipQ} (e2 : h r_0 = some (.inr (9, fs1))) (m3 : c ≤ MC) (m4 : s ≤ MS) (hc : call 100 [(.ref r_0), (.int x_2)] h z 0 0 P) (K : ∀ (o : Option Value) (h2 : HP) (z2 : Nat), P o h2 z2 → ip sc call 108 MC MS Q 151 [some (.ref r_0), some (.int x_1), some (.int x_2), some (.int x_3), some (.int x_4), some (.int x_5), some (.int x_6), some (.int x_7), some (.int x_8), o_9, o_10, some (.int x_11), some (.int x_12), some (.int x_13), o_14, o_15] (o.toList ++ []) h2 z2 c s) : ip sc call 108 MC MS Q 146 [some (.ref r_0), some (.int x_1), some (.int x_2), some (.int x_3), some (.int x_4), some (.int x_5), some (.int x_6), some (.int x_7), some (.int x_8), o_9, o_10, some (.int x_11), some (.int x_12), some (.int x_13), o_14, o_15] [] h z c s := by
  refine jp_load (pc2 := 147) (n := 0) rfl rfl rfl rfl ?_
  refine jp_load (pc2 := 148) (n := 2) rfl rfl rfl rfl ?_
  exact jp_virt0 (pc2 := 151) (As := [(.int x_2)]) (rest := []) rfl rfl rfl (Nat.le_of_ble_eq_true rfl) e2 m3 m4 hc rfl K
set_option maxRecDepth 100000 in
theorem b108_151 {r_0 : Nat} {x_1 : Int32} {x_2 : Int32} {x_3 : Int32} {x_4 : Int32} {x_5 : Int32} {x_6 : Int32} {x_7 : Int32} {x_8 : Int32} {o_9 : Option Value} {o_10 : Option Value} {x_11 : Int32} {x_12 : Int32} {x_13 : Int32} {o_14 : Option Value} {o_15 : Option Value} {fs1 : List Value} {q_fs1_0 : Nat} {n4 : Nat} {f5 : Nat → Int32} (e2 : h r_0 = some (.inr (9, fs1))) (e3 : fs1[0]? = some (.ref q_fs1_0)) (e6 : h q_fs1_0 = some (.inl (0, n4, .inl f5))) (b7 : vp_in ((x_1 + 36) + x_13) n4) (K1 : x_13 = x_3 → ip sc call 108 MC MS Q 201 [some (.ref r_0), some (.int x_1), some (.int x_2), some (.int x_3), some (.int x_4), some (.int x_5), some (.int x_6), some (.int x_7), some (.int x_8), o_9, o_10, some (.int x_11), some (.int x_12), some (.int x_13), some (.int (f5 ((x_1 + 36) + x_13).toNatClampNeg)), o_15] [] h z c s) (K2 : ¬ (x_13 = x_3) → ip sc call 108 MC MS Q 171 [some (.ref r_0), some (.int x_1), some (.int x_2), some (.int x_3), some (.int x_4), some (.int x_5), some (.int x_6), some (.int x_7), some (.int x_8), o_9, o_10, some (.int x_11), some (.int x_12), some (.int x_13), some (.int (f5 ((x_1 + 36) + x_13).toNatClampNeg)), o_15] [] h z c s) : ip sc call 108 MC MS Q 151 [some (.ref r_0), some (.int x_1), some (.int x_2), some (.int x_3), some (.int x_4), some (.int x_5), some (.int x_6), some (.int x_7), some (.int x_8), o_9, o_10, some (.int x_11), some (.int x_12), some (.int x_13), o_14, o_15] [] h z c s := by
  refine jp_load (pc2 := 152) (n := 0) rfl rfl rfl rfl ?_
  refine jp_getf (pc2 := 155) rfl rfl e2 e3 ?_
  refine jp_load (pc2 := 156) (n := 1) rfl rfl rfl rfl ?_
  refine jp_con (pc2 := 158) (v := .int 36) rfl rfl rfl ?_
  refine jp_bin (pc2 := 159) (v := x_1 + 36) rfl rfl rfl ?_
  refine jp_load (pc2 := 161) (n := 13) rfl rfl rfl rfl ?_
  refine jp_bin (pc2 := 162) (v := (x_1 + 36) + x_13) rfl rfl rfl ?_
  refine jp_iald (pc2 := 163) rfl rfl e6 b7 ?_
  refine jp_store (pc2 := 165) (n := 14) rfl rfl ⟨rfl, rfl⟩ rfl (Nat.le_of_ble_eq_true rfl) ?_
  refine jp_load (pc2 := 167) (n := 13) rfl rfl rfl rfl ?_
  refine jp_load (pc2 := 168) (n := 3) rfl rfl rfl rfl ?_
  exact jp_icmp (pc2 := 171) rfl rfl K1 K2
set_option maxRecDepth 100000 in
theorem b108_171 {r_0 : Nat} {x_1 : Int32} {x_2 : Int32} {x_3 : Int32} {x_4 : Int32} {x_5 : Int32} {x_6 : Int32} {x_7 : Int32} {x_8 : Int32} {o_9 : Option Value} {o_10 : Option Value} {x_11 : Int32} {x_12 : Int32} {x_13 : Int32} {x_14 : Int32} {o_15 : Option Value}  (K : ip sc call 108 MC MS Q 174 [some (.ref r_0), some (.int x_1), some (.int x_2), some (.int x_3), some (.int x_4), some (.int x_5), some (.int x_6), some (.int x_7), some (.int x_8), o_9, o_10, some (.int x_11), some (.int x_12), some (.int x_13), some (.int x_14), some (.int 0)] [] h z c s) : ip sc call 108 MC MS Q 171 [some (.ref r_0), some (.int x_1), some (.int x_2), some (.int x_3), some (.int x_4), some (.int x_5), some (.int x_6), some (.int x_7), some (.int x_8), o_9, o_10, some (.int x_11), some (.int x_12), some (.int x_13), some (.int x_14), o_15] [] h z c s := by
  refine jp_con (pc2 := 172) (v := .int 0) rfl rfl rfl ?_
  refine jp_store (pc2 := 174) (n := 15) rfl rfl ⟨rfl, rfl⟩ rfl (Nat.le_of_ble_eq_true rfl) ?_
  exact K
set_option maxRecDepth 100000 in
theorem b108_174 {r_0 : Nat} {x_1 : Int32} {x_2 : Int32} {x_3 : Int32} {x_4 : Int32} {x_5 : Int32} {x_6 : Int32} {x_7 : Int32} {x_8 : Int32} {o_9 : Option Value} {o_10 : Option Value} {x_11 : Int32} {x_12 : Int32} {x_13 : Int32} {x_14 : Int32} {x_15 : Int32}  (K1 : x_14 ≤ x_15 → ip sc call 108 MC MS Q 198 [some (.ref r_0), some (.int x_1), some (.int x_2), some (.int x_3), some (.int x_4), some (.int x_5), some (.int x_6), some (.int x_7), some (.int x_8), o_9, o_10, some (.int x_11), some (.int x_12), some (.int x_13), some (.int x_14), some (.int x_15)] [] h z c s) (K2 : ¬ (x_14 ≤ x_15) → ip sc call 108 MC MS Q 181 [some (.ref r_0), some (.int x_1), some (.int x_2), some (.int x_3), some (.int x_4), some (.int x_5), some (.int x_6), some (.int x_7), some (.int x_8), o_9, o_10, some (.int x_11), some (.int x_12), some (.int x_13), some (.int x_14), some (.int x_15)] [] h z c s) : ip sc call 108 MC MS Q 174 [some (.ref r_0), some (.int x_1), some (.int x_2), some (.int x_3), some (.int x_4), some (.int x_5), some (.int x_6), some (.int x_7), some (.int x_8), o_9, o_10, some (.int x_11), some (.int x_12), some (.int x_13), some (.int x_14), some (.int x_15)] [] h z c s := by
  refine jp_load (pc2 := 176) (n := 15) rfl rfl rfl rfl ?_
  refine jp_load (pc2 := 178) (n := 14) rfl rfl rfl rfl ?_
  exact jp_icmp (pc2 := 181) rfl rfl K1 K2
set_option maxRecDepth 100000 in
theorem b108_181 {r_0 : Nat} {x_1 : Int32} {x_2 : Int32} {x_3 : Int32} {x_4 : Int32} {x_5 : Int32} {x_6 : Int32} {x_7 : Int32} {x_8 : Int32} {o_9 : Option Value} {o_10 : Option Value} {x_11 : Int32} {x_12 : Int32} {x_13 : Int32} {x_14 : Int32} {x_15 : Int32} {fs1 : List Value} {P : ipQ} (e2 : h r_0 = some (.inr (9, fs1))) (m3 : c ≤ MC) (m4 : s ≤ MS) (hc : call 102 [(.ref r_0), (.int x_1), (.int (x_12 + x_15)), (.int x_2)] h z 0 0 P) (K : ∀ (o : Option Value) (h2 : HP) (z2 : Nat), P o h2 z2 → ip sc call 108 MC MS Q 192 [some (.ref r_0), some (.int x_1), some (.int x_2), some (.int x_3), some (.int x_4), some (.int x_5), some (.int x_6), some (.int x_7), some (.int x_8), o_9, o_10, some (.int x_11), some (.int x_12), some (.int x_13), some (.int x_14), some (.int x_15)] (o.toList ++ []) h2 z2 c s) : ip sc call 108 MC MS Q 181 [some (.ref r_0), some (.int x_1), some (.int x_2), some (.int x_3), some (.int x_4), some (.int x_5), some (.int x_6), some (.int x_7), some (.int x_8), o_9, o_10, some (.int x_11), some (.int x_12), some (.int x_13), some (.int x_14), some (.int x_15)] [] h z c s := by
  refine jp_load (pc2 := 182) (n := 0) rfl rfl rfl rfl ?_
  refine jp_load (pc2 := 183) (n := 1) rfl rfl rfl rfl ?_
  refine jp_load (pc2 := 185) (n := 12) rfl rfl rfl rfl ?_
  refine jp_load (pc2 := 187) (n := 15) rfl rfl rfl rfl ?_
  refine jp_bin (pc2 := 188) (v := x_12 + x_15) rfl rfl rfl ?_
  refine jp_load (pc2 := 189) (n := 2) rfl rfl rfl rfl ?_
  exact jp_virt0 (pc2 := 192) (As := [(.int x_1), (.int (x_12 + x_15)), (.int x_2)]) (rest := []) rfl rfl rfl (Nat.le_of_ble_eq_true rfl) e2 m3 m4 hc rfl K
set_option maxRecDepth 100000 in
theorem b108_192 {r_0 : Nat} {x_1 : Int32} {x_2 : Int32} {x_3 : Int32} {x_4 : Int32} {x_5 : Int32} {x_6 : Int32} {x_7 : Int32} {x_8 : Int32} {o_9 : Option Value} {o_10 : Option Value} {x_11 : Int32} {x_12 : Int32} {x_13 : Int32} {x_14 : Int32} {x_15 : Int32}  (K : ip sc call 108 MC MS Q 174 [some (.ref r_0), some (.int x_1), some (.int x_2), some (.int x_3), some (.int x_4), some (.int x_5), some (.int x_6), some (.int x_7), some (.int x_8), o_9, o_10, some (.int x_11), some (.int x_12), some (.int x_13), some (.int x_14), some (.int (x_15 + 1))] [] h z c s) : ip sc call 108 MC MS Q 192 [some (.ref r_0), some (.int x_1), some (.int x_2), some (.int x_3), some (.int x_4), some (.int x_5), some (.int x_6), some (.int x_7), some (.int x_8), o_9, o_10, some (.int x_11), some (.int x_12), some (.int x_13), some (.int x_14), some (.int x_15)] [] h z c s := by
  refine jp_iinc (pc2 := 195) (n := 15) (v := x_15 + 1) rfl rfl rfl rfl rfl ?_
  refine ip_goto rfl ?_
  exact K
set_option maxRecDepth 100000 in
theorem b108_198 {r_0 : Nat} {x_1 : Int32} {x_2 : Int32} {x_3 : Int32} {x_4 : Int32} {x_5 : Int32} {x_6 : Int32} {x_7 : Int32} {x_8 : Int32} {o_9 : Option Value} {o_10 : Option Value} {x_11 : Int32} {x_12 : Int32} {x_13 : Int32} {x_14 : Int32} {o_15 : Option Value}  (K : ip sc call 108 MC MS Q 251 [some (.ref r_0), some (.int x_1), some (.int x_2), some (.int x_3), some (.int x_4), some (.int x_5), some (.int x_6), some (.int x_7), some (.int x_8), o_9, o_10, some (.int x_11), some (.int x_12), some (.int x_13), some (.int x_14), o_15] [] h z c s) : ip sc call 108 MC MS Q 198 [some (.ref r_0), some (.int x_1), some (.int x_2), some (.int x_3), some (.int x_4), some (.int x_5), some (.int x_6), some (.int x_7), some (.int x_8), o_9, o_10, some (.int x_11), some (.int x_12), some (.int x_13), some (.int x_14), o_15] [] h z c s := by
  refine ip_goto rfl ?_
  exact K
set_option maxRecDepth 100000 in
theorem b108_201 {r_0 : Nat} {x_1 : Int32} {x_2 : Int32} {x_3 : Int32} {x_4 : Int32} {x_5 : Int32} {x_6 : Int32} {x_7 : Int32} {x_8 : Int32} {o_9 : Option Value} {o_10 : Option Value} {x_11 : Int32} {x_12 : Int32} {x_13 : Int32} {x_14 : Int32} {o_15 : Option Value}  (K1 : x_4 = x_6 → ip sc call 108 MC MS Q 231 [some (.ref r_0), some (.int x_1), some (.int x_2), some (.int x_3), some (.int x_4), some (.int x_5), some (.int x_6), some (.int x_7), some (.int x_8), o_9, o_10, some (.int x_11), some (.int x_12), some (.int x_13), some (.int x_14), o_15] [] h z c s) (K2 : ¬ (x_4 = x_6) → ip sc call 108 MC MS Q 208 [some (.ref r_0), some (.int x_1), some (.int x_2), some (.int x_3), some (.int x_4), some (.int x_5), some (.int x_6), some (.int x_7), some (.int x_8), o_9, o_10, some (.int x_11), some (.int x_12), some (.int x_13), some (.int x_14), o_15] [] h z c s) : ip sc call 108 MC MS Q 201 [some (.ref r_0), some (.int x_1), some (.int x_2), some (.int x_3), some (.int x_4), some (.int x_5), some (.int x_6), some (.int x_7), some (.int x_8), o_9, o_10, some (.int x_11), some (.int x_12), some (.int x_13), some (.int x_14), o_15] [] h z c s := by
  refine jp_load (pc2 := 203) (n := 4) rfl rfl rfl rfl ?_
  refine jp_load (pc2 := 205) (n := 6) rfl rfl rfl rfl ?_
  exact jp_icmp (pc2 := 208) rfl rfl K1 K2
set_option maxRecDepth 100000 in
theorem b108_208 {r_0 : Nat} {x_1 : Int32} {x_2 : Int32} {x_3 : Int32} {x_4 : Int32} {x_5 : Int32} {x_6 : Int32} {x_7 : Int32} {x_8 : Int32} {o_9 : Option Value} {o_10 : Option Value} {x_11 : Int32} {x_12 : Int32} {x_13 : Int32} {x_14 : Int32} {o_15 : Option Value} {fs1 : List Value} {P : ipQ} (e2 : h r_0 = some (.inr (9, fs1))) (m3 : c ≤ MC) (m4 : s ≤ MS) (hc : call 109 [(.ref r_0), (.int x_1), (.int x_2), (.int x_12), (.int x_14), (.int x_4), (.int x_5), (.int x_6), (.int x_7), (.int x_11)] h z 0 0 P) (K : ∀ (o : Option Value) (h2 : HP) (z2 : Nat), P o h2 z2 → ip sc call 108 MC MS Q 228 [some (.ref r_0), some (.int x_1), some (.int x_2), some (.int x_3), some (.int x_4), some (.int x_5), some (.int x_6), some (.int x_7), some (.int x_8), o_9, o_10, some (.int x_11), some (.int x_12), some (.int x_13), some (.int x_14), o_15] (o.toList ++ []) h2 z2 c s) : ip sc call 108 MC MS Q 208 [some (.ref r_0), some (.int x_1), some (.int x_2), some (.int x_3), some (.int x_4), some (.int x_5), some (.int x_6), some (.int x_7), some (.int x_8), o_9, o_10, some (.int x_11), some (.int x_12), some (.int x_13), some (.int x_14), o_15] [] h z c s := by
  refine jp_load (pc2 := 209) (n := 0) rfl rfl rfl rfl ?_
  refine jp_load (pc2 := 210) (n := 1) rfl rfl rfl rfl ?_
  refine jp_load (pc2 := 211) (n := 2) rfl rfl rfl rfl ?_
  refine jp_load (pc2 := 213) (n := 12) rfl rfl rfl rfl ?_
  refine jp_load (pc2 := 215) (n := 14) rfl rfl rfl rfl ?_
  refine jp_load (pc2 := 217) (n := 4) rfl rfl rfl rfl ?_
  refine jp_load (pc2 := 219) (n := 5) rfl rfl rfl rfl ?_
  refine jp_load (pc2 := 221) (n := 6) rfl rfl rfl rfl ?_
  refine jp_load (pc2 := 223) (n := 7) rfl rfl rfl rfl ?_
  refine jp_load (pc2 := 225) (n := 11) rfl rfl rfl rfl ?_
  exact jp_virt0 (pc2 := 228) (As := [(.int x_1), (.int x_2), (.int x_12), (.int x_14), (.int x_4), (.int x_5), (.int x_6), (.int x_7), (.int x_11)]) (rest := []) rfl rfl rfl (Nat.le_of_ble_eq_true rfl) e2 m3 m4 hc rfl K
set_option maxRecDepth 100000 in
theorem b108_228 {r_0 : Nat} {x_1 : Int32} {x_2 : Int32} {x_3 : Int32} {x_4 : Int32} {x_5 : Int32} {x_6 : Int32} {x_7 : Int32} {x_8 : Int32} {o_9 : Option Value} {o_10 : Option Value} {x_11 : Int32} {x_12 : Int32} {x_13 : Int32} {x_14 : Int32} {o_15 : Option Value}  (K : ip sc call 108 MC MS Q 251 [some (.ref r_0), some (.int x_1), some (.int x_2), some (.int x_3), some (.int x_4), some (.int x_5), some (.int x_6), some (.int x_7), some (.int x_8), o_9, o_10, some (.int x_11), some (.int x_12), some (.int x_13), some (.int x_14), o_15] [] h z c s) : ip sc call 108 MC MS Q 228 [some (.ref r_0), some (.int x_1), some (.int x_2), some (.int x_3), some (.int x_4), some (.int x_5), some (.int x_6), some (.int x_7), some (.int x_8), o_9, o_10, some (.int x_11), some (.int x_12), some (.int x_13), some (.int x_14), o_15] [] h z c s := by
  refine ip_goto rfl ?_
  exact K
set_option maxRecDepth 100000 in
theorem b108_231 {r_0 : Nat} {x_1 : Int32} {x_2 : Int32} {x_3 : Int32} {x_4 : Int32} {x_5 : Int32} {x_6 : Int32} {x_7 : Int32} {x_8 : Int32} {o_9 : Option Value} {o_10 : Option Value} {x_11 : Int32} {x_12 : Int32} {x_13 : Int32} {x_14 : Int32} {o_15 : Option Value} {fs1 : List Value} {P : ipQ} (e2 : h r_0 = some (.inr (9, fs1))) (m3 : c ≤ MC) (m4 : s ≤ MS) (hc : call 110 [(.ref r_0), (.int x_1), (.int x_2), (.int x_12), (.int x_14), (.int x_4), (.int x_5), (.int x_7), (.int x_11), (.int x_8)] h z 0 0 P) (K : ∀ (o : Option Value) (h2 : HP) (z2 : Nat), P o h2 z2 → ip sc call 108 MC MS Q 251 [some (.ref r_0), some (.int x_1), some (.int x_2), some (.int x_3), some (.int x_4), some (.int x_5), some (.int x_6), some (.int x_7), some (.int x_8), o_9, o_10, some (.int x_11), some (.int x_12), some (.int x_13), some (.int x_14), o_15] (o.toList ++ []) h2 z2 c s) : ip sc call 108 MC MS Q 231 [some (.ref r_0), some (.int x_1), some (.int x_2), some (.int x_3), some (.int x_4), some (.int x_5), some (.int x_6), some (.int x_7), some (.int x_8), o_9, o_10, some (.int x_11), some (.int x_12), some (.int x_13), some (.int x_14), o_15] [] h z c s := by
  refine jp_load (pc2 := 232) (n := 0) rfl rfl rfl rfl ?_
  refine jp_load (pc2 := 233) (n := 1) rfl rfl rfl rfl ?_
  refine jp_load (pc2 := 234) (n := 2) rfl rfl rfl rfl ?_
  refine jp_load (pc2 := 236) (n := 12) rfl rfl rfl rfl ?_
  refine jp_load (pc2 := 238) (n := 14) rfl rfl rfl rfl ?_
  refine jp_load (pc2 := 240) (n := 4) rfl rfl rfl rfl ?_
  refine jp_load (pc2 := 242) (n := 5) rfl rfl rfl rfl ?_
  refine jp_load (pc2 := 244) (n := 7) rfl rfl rfl rfl ?_
  refine jp_load (pc2 := 246) (n := 11) rfl rfl rfl rfl ?_
  refine jp_load (pc2 := 248) (n := 8) rfl rfl rfl rfl ?_
  exact jp_virt0 (pc2 := 251) (As := [(.int x_1), (.int x_2), (.int x_12), (.int x_14), (.int x_4), (.int x_5), (.int x_7), (.int x_11), (.int x_8)]) (rest := []) rfl rfl rfl (Nat.le_of_ble_eq_true rfl) e2 m3 m4 hc rfl K
set_option maxRecDepth 100000 in
theorem b108_251 {r_0 : Nat} {x_1 : Int32} {x_2 : Int32} {x_3 : Int32} {x_4 : Int32} {x_5 : Int32} {x_6 : Int32} {x_7 : Int32} {x_8 : Int32} {o_9 : Option Value} {o_10 : Option Value} {x_11 : Int32} {x_12 : Int32} {x_13 : Int32} {x_14 : Int32} {o_15 : Option Value}  (K : ip sc call 108 MC MS Q 133 [some (.ref r_0), some (.int x_1), some (.int x_2), some (.int x_3), some (.int x_4), some (.int x_5), some (.int x_6), some (.int x_7), some (.int x_8), o_9, o_10, some (.int x_11), some (.int (x_12 + x_14)), some (.int (x_13 + 1)), some (.int x_14), o_15] [] h z c s) : ip sc call 108 MC MS Q 251 [some (.ref r_0), some (.int x_1), some (.int x_2), some (.int x_3), some (.int x_4), some (.int x_5), some (.int x_6), some (.int x_7), some (.int x_8), o_9, o_10, some (.int x_11), some (.int x_12), some (.int x_13), some (.int x_14), o_15] [] h z c s := by
  refine jp_load (pc2 := 253) (n := 12) rfl rfl rfl rfl ?_
  refine jp_load (pc2 := 255) (n := 14) rfl rfl rfl rfl ?_
  refine jp_bin (pc2 := 256) (v := x_12 + x_14) rfl rfl rfl ?_
  refine jp_store (pc2 := 258) (n := 12) rfl rfl ⟨rfl, rfl⟩ rfl (Nat.le_of_ble_eq_true rfl) ?_
  refine jp_iinc (pc2 := 261) (n := 13) (v := x_13 + 1) rfl rfl rfl rfl rfl ?_
  refine ip_goto rfl ?_
  exact K
set_option maxRecDepth 100000 in
theorem b108_264 {r_0 : Nat} {x_1 : Int32} {x_2 : Int32} {x_3 : Int32} {x_4 : Int32} {x_5 : Int32} {x_6 : Int32} {x_7 : Int32} {x_8 : Int32} {o_9 : Option Value} {o_10 : Option Value} {x_11 : Int32} {o_12 : Option Value} {o_13 : Option Value} {o_14 : Option Value} {o_15 : Option Value}  (K1 : x_4 = x_6 → ip sc call 108 MC MS Q 274 [some (.ref r_0), some (.int x_1), some (.int x_2), some (.int x_3), some (.int x_4), some (.int x_5), some (.int x_6), some (.int x_7), some (.int x_8), o_9, o_10, some (.int x_11), o_12, o_13, o_14, o_15] [] h z c s) (K2 : ¬ (x_4 = x_6) → ip sc call 108 MC MS Q 271 [some (.ref r_0), some (.int x_1), some (.int x_2), some (.int x_3), some (.int x_4), some (.int x_5), some (.int x_6), some (.int x_7), some (.int x_8), o_9, o_10, some (.int x_11), o_12, o_13, o_14, o_15] [] h z c s) : ip sc call 108 MC MS Q 264 [some (.ref r_0), some (.int x_1), some (.int x_2), some (.int x_3), some (.int x_4), some (.int x_5), some (.int x_6), some (.int x_7), some (.int x_8), o_9, o_10, some (.int x_11), o_12, o_13, o_14, o_15] [] h z c s := by
  refine jp_load (pc2 := 266) (n := 4) rfl rfl rfl rfl ?_
  refine jp_load (pc2 := 268) (n := 6) rfl rfl rfl rfl ?_
  exact jp_icmp (pc2 := 271) rfl rfl K1 K2
set_option maxRecDepth 100000 in
theorem b108_271 {o_0 : Option Value} {o_1 : Option Value} {o_2 : Option Value} {o_3 : Option Value} {o_4 : Option Value} {o_5 : Option Value} {o_6 : Option Value} {o_7 : Option Value} {o_8 : Option Value} {o_9 : Option Value} {o_10 : Option Value} {x_11 : Int32} {o_12 : Option Value} {o_13 : Option Value} {o_14 : Option Value} {o_15 : Option Value} (q1 : Q (some (.int x_11)) h z)  : ip sc call 108 MC MS Q 271 [o_0, o_1, o_2, o_3, o_4, o_5, o_6, o_7, o_8, o_9, o_10, some (.int x_11), o_12, o_13, o_14, o_15] [] h z c s := by
  refine jp_load (pc2 := 273) (n := 11) rfl rfl rfl rfl ?_
  exact ip_iret (st := []) rfl rfl rfl q1
set_option maxRecDepth 100000 in
theorem b108_274 {r_0 : Nat} {x_1 : Int32} {x_2 : Int32} {x_3 : Int32} {x_4 : Int32} {x_5 : Int32} {o_6 : Option Value} {x_7 : Int32} {x_8 : Int32} {o_9 : Option Value} {o_10 : Option Value} {x_11 : Int32} {o_12 : Option Value} {o_13 : Option Value} {o_14 : Option Value} {o_15 : Option Value} {fs1 : List Value} {P : ipQ} (e2 : h r_0 = some (.inr (9, fs1))) (m3 : c ≤ MC) (m4 : s ≤ MS) (hc : call 100 [(.ref r_0), (.int x_2)] h z 0 0 P) (K : ∀ (o : Option Value) (h2 : HP) (z2 : Nat), P o h2 z2 → ip sc call 108 MC MS Q 279 [some (.ref r_0), some (.int x_1), some (.int x_2), some (.int x_3), some (.int x_4), some (.int x_5), o_6, some (.int x_7), some (.int x_8), o_9, o_10, some (.int x_11), o_12, o_13, o_14, o_15] (o.toList ++ []) h2 z2 c s) : ip sc call 108 MC MS Q 274 [some (.ref r_0), some (.int x_1), some (.int x_2), some (.int x_3), some (.int x_4), some (.int x_5), o_6, some (.int x_7), some (.int x_8), o_9, o_10, some (.int x_11), o_12, o_13, o_14, o_15] [] h z c s := by
  refine jp_load (pc2 := 275) (n := 0) rfl rfl rfl rfl ?_
  refine jp_load (pc2 := 276) (n := 2) rfl rfl rfl rfl ?_
  exact jp_virt0 (pc2 := 279) (As := [(.int x_2)]) (rest := []) rfl rfl rfl (Nat.le_of_ble_eq_true rfl) e2 m3 m4 hc rfl K
set_option maxRecDepth 100000 in
theorem b108_279 {r_0 : Nat} {x_1 : Int32} {x_2 : Int32} {x_3 : Int32} {x_4 : Int32} {x_5 : Int32} {o_6 : Option Value} {x_7 : Int32} {x_8 : Int32} {o_9 : Option Value} {o_10 : Option Value} {x_11 : Int32} {o_12 : Option Value} {o_13 : Option Value} {o_14 : Option Value} {o_15 : Option Value} {fs1 : List Value} {P : ipQ} (e2 : h r_0 = some (.inr (9, fs1))) (m3 : c ≤ MC) (m4 : s ≤ MS) (hc : call 97 [(.ref r_0), (.int x_1), (.int x_3)] h z 0 0 P) (K : ∀ (o : Option Value) (h2 : HP) (z2 : Nat), P o h2 z2 → ip sc call 108 MC MS Q 285 [some (.ref r_0), some (.int x_1), some (.int x_2), some (.int x_3), some (.int x_4), some (.int x_5), o_6, some (.int x_7), some (.int x_8), o_9, o_10, some (.int x_11), o_12, o_13, o_14, o_15] (o.toList ++ []) h2 z2 c s) : ip sc call 108 MC MS Q 279 [some (.ref r_0), some (.int x_1), some (.int x_2), some (.int x_3), some (.int x_4), some (.int x_5), o_6, some (.int x_7), some (.int x_8), o_9, o_10, some (.int x_11), o_12, o_13, o_14, o_15] [] h z c s := by
  refine jp_load (pc2 := 280) (n := 0) rfl rfl rfl rfl ?_
  refine jp_load (pc2 := 281) (n := 1) rfl rfl rfl rfl ?_
  refine jp_load (pc2 := 282) (n := 3) rfl rfl rfl rfl ?_
  exact jp_virt0 (pc2 := 285) (As := [(.int x_1), (.int x_3)]) (rest := []) rfl rfl rfl (Nat.le_of_ble_eq_true rfl) e2 m3 m4 hc rfl K
set_option maxRecDepth 100000 in
theorem b108_285 {r_0 : Nat} {x_1 : Int32} {x_2 : Int32} {x_3 : Int32} {x_4 : Int32} {x_5 : Int32} {o_6 : Option Value} {x_7 : Int32} {x_8 : Int32} {o_9 : Option Value} {o_10 : Option Value} {x_11 : Int32} {o_12 : Option Value} {o_13 : Option Value} {o_14 : Option Value} {o_15 : Option Value} {sx_0 : Int32} {fs2 : List Value} {P : ipQ} (k1 : ip2 o_12 = false) (e3 : h r_0 = some (.inr (9, fs2))) (m4 : c ≤ MC) (m5 : s ≤ MS) (hc : call 99 [(.ref r_0), (.int x_2)] h z 0 0 P) (K : ∀ (o : Option Value) (h2 : HP) (z2 : Nat), P o h2 z2 → ip sc call 108 MC MS Q 292 [some (.ref r_0), some (.int x_1), some (.int x_2), some (.int x_3), some (.int x_4), some (.int x_5), o_6, some (.int x_7), some (.int x_8), o_9, o_10, some (.int x_11), o_12, some (.int sx_0), o_14, o_15] (o.toList ++ []) h2 z2 c s) : ip sc call 108 MC MS Q 285 [some (.ref r_0), some (.int x_1), some (.int x_2), some (.int x_3), some (.int x_4), some (.int x_5), o_6, some (.int x_7), some (.int x_8), o_9, o_10, some (.int x_11), o_12, o_13, o_14, o_15] [(.int sx_0)] h z c s := by
  refine jp_store (pc2 := 287) (n := 13) rfl rfl ⟨rfl, rfl⟩ k1 (Nat.le_of_ble_eq_true rfl) ?_
  refine jp_load (pc2 := 288) (n := 0) rfl rfl rfl rfl ?_
  refine jp_load (pc2 := 289) (n := 2) rfl rfl rfl rfl ?_
  exact jp_virt0 (pc2 := 292) (As := [(.int x_2)]) (rest := []) rfl rfl rfl (Nat.le_of_ble_eq_true rfl) e3 m4 m5 hc rfl K
set_option maxRecDepth 100000 in
theorem b108_292 {r_0 : Nat} {x_1 : Int32} {x_2 : Int32} {x_3 : Int32} {x_4 : Int32} {x_5 : Int32} {o_6 : Option Value} {x_7 : Int32} {x_8 : Int32} {o_9 : Option Value} {o_10 : Option Value} {x_11 : Int32} {o_12 : Option Value} {x_13 : Int32} {o_14 : Option Value} {o_15 : Option Value}  (K1 : ¬ x_5 = x_7 → ip sc call 108 MC MS Q 315 [some (.ref r_0), some (.int x_1), some (.int x_2), some (.int x_3), some (.int x_4), some (.int x_5), o_6, some (.int x_7), some (.int x_8), o_9, o_10, some (.int x_11), o_12, some (.int x_13), o_14, o_15] [] h z c s) (K2 : ¬ (¬ x_5 = x_7) → ip sc call 108 MC MS Q 299 [some (.ref r_0), some (.int x_1), some (.int x_2), some (.int x_3), some (.int x_4), some (.int x_5), o_6, some (.int x_7), some (.int x_8), o_9, o_10, some (.int x_11), o_12, some (.int x_13), o_14, o_15] [] h z c s) : ip sc call 108 MC MS Q 292 [some (.ref r_0), some (.int x_1), some (.int x_2), some (.int x_3), some (.int x_4), some (.int x_5), o_6, some (.int x_7), some (.int x_8), o_9, o_10, some (.int x_11), o_12, some (.int x_13), o_14, o_15] [] h z c s := by
  refine jp_load (pc2 := 294) (n := 5) rfl rfl rfl rfl ?_
  refine jp_load (pc2 := 296) (n := 7) rfl rfl rfl rfl ?_
  exact jp_icmp (pc2 := 299) rfl rfl K1 K2
set_option maxRecDepth 100000 in
theorem b108_299 {r_0 : Nat} {x_1 : Int32} {x_2 : Int32} {x_3 : Int32} {x_4 : Int32} {x_5 : Int32} {o_6 : Option Value} {o_7 : Option Value} {x_8 : Int32} {o_9 : Option Value} {o_10 : Option Value} {x_11 : Int32} {o_12 : Option Value} {x_13 : Int32} {o_14 : Option Value} {o_15 : Option Value} {fs1 : List Value} {P : ipQ} (e2 : h r_0 = some (.inr (9, fs1))) (m3 : c ≤ MC) (m4 : s ≤ MS) (hc : call 104 [(.ref r_0), (.int x_1), (.int (x_13 + x_4)), (.int x_5), (.int x_2)] h z 0 0 P) (K : ∀ (o : Option Value) (h2 : HP) (z2 : Nat), P o h2 z2 → ip sc call 108 MC MS Q 312 [some (.ref r_0), some (.int x_1), some (.int x_2), some (.int x_3), some (.int x_4), some (.int x_5), o_6, o_7, some (.int x_8), o_9, o_10, some (.int x_11), o_12, some (.int x_13), o_14, o_15] (o.toList ++ []) h2 z2 c s) : ip sc call 108 MC MS Q 299 [some (.ref r_0), some (.int x_1), some (.int x_2), some (.int x_3), some (.int x_4), some (.int x_5), o_6, o_7, some (.int x_8), o_9, o_10, some (.int x_11), o_12, some (.int x_13), o_14, o_15] [] h z c s := by
  refine jp_load (pc2 := 300) (n := 0) rfl rfl rfl rfl ?_
  refine jp_load (pc2 := 301) (n := 1) rfl rfl rfl rfl ?_
  refine jp_load (pc2 := 303) (n := 13) rfl rfl rfl rfl ?_
  refine jp_load (pc2 := 305) (n := 4) rfl rfl rfl rfl ?_
  refine jp_bin (pc2 := 306) (v := x_13 + x_4) rfl rfl rfl ?_
  refine jp_load (pc2 := 308) (n := 5) rfl rfl rfl rfl ?_
  refine jp_load (pc2 := 309) (n := 2) rfl rfl rfl rfl ?_
  exact jp_virt0 (pc2 := 312) (As := [(.int x_1), (.int (x_13 + x_4)), (.int x_5), (.int x_2)]) (rest := []) rfl rfl rfl (Nat.le_of_ble_eq_true rfl) e2 m3 m4 hc rfl K
set_option maxRecDepth 100000 in
theorem b108_312 {r_0 : Nat} {x_1 : Int32} {x_2 : Int32} {x_3 : Int32} {x_4 : Int32} {o_5 : Option Value} {o_6 : Option Value} {o_7 : Option Value} {x_8 : Int32} {o_9 : Option Value} {o_10 : Option Value} {x_11 : Int32} {o_12 : Option Value} {x_13 : Int32} {o_14 : Option Value} {o_15 : Option Value}  (K : ip sc call 108 MC MS Q 359 [some (.ref r_0), some (.int x_1), some (.int x_2), some (.int x_3), some (.int x_4), o_5, o_6, o_7, some (.int x_8), o_9, o_10, some (.int x_11), o_12, some (.int x_13), o_14, o_15] [] h z c s) : ip sc call 108 MC MS Q 312 [some (.ref r_0), some (.int x_1), some (.int x_2), some (.int x_3), some (.int x_4), o_5, o_6, o_7, some (.int x_8), o_9, o_10, some (.int x_11), o_12, some (.int x_13), o_14, o_15] [] h z c s := by
  refine ip_goto rfl ?_
  exact K
set_option maxRecDepth 100000 in
theorem b108_315 {r_0 : Nat} {x_1 : Int32} {x_2 : Int32} {x_3 : Int32} {x_4 : Int32} {x_5 : Int32} {o_6 : Option Value} {x_7 : Int32} {x_8 : Int32} {o_9 : Option Value} {o_10 : Option Value} {x_11 : Int32} {o_12 : Option Value} {x_13 : Int32} {o_14 : Option Value} {o_15 : Option Value} {fs1 : List Value} {q_fs1_0 : Nat} {n4 : Nat} {f5 : Nat → Int32} {P : ipQ} (e2 : h r_0 = some (.inr (9, fs1))) (e3 : fs1[0]? = some (.ref q_fs1_0)) (e6 : h q_fs1_0 = some (.inl (0, n4, .inl f5))) (b7 : vp_in (((x_1 + 68) + x_13) + x_4) n4) (m8 : c ≤ MC) (m9 : s ≤ MS) (hc : call 103 [(.ref r_0), (.int x_1), (.int (x_13 + x_4)), (.int x_7), (.int ((f5 (((x_1 + 68) + x_13) + x_4).toNatClampNeg) - 1)), (.int x_2)] h z 0 0 P) (K : ∀ (o : Option Value) (h2 : HP) (z2 : Nat), P o h2 z2 → ip sc call 108 MC MS Q 345 [some (.ref r_0), some (.int x_1), some (.int x_2), some (.int x_3), some (.int x_4), some (.int x_5), o_6, some (.int x_7), some (.int x_8), o_9, o_10, some (.int x_11), o_12, some (.int x_13), o_14, o_15] (o.toList ++ []) h2 z2 c s) : ip sc call 108 MC MS Q 315 [some (.ref r_0), some (.int x_1), some (.int x_2), some (.int x_3), some (.int x_4), some (.int x_5), o_6, some (.int x_7), some (.int x_8), o_9, o_10, some (.int x_11), o_12, some (.int x_13), o_14, o_15] [] h z c s := by
  refine jp_load (pc2 := 316) (n := 0) rfl rfl rfl rfl ?_
  refine jp_load (pc2 := 317) (n := 1) rfl rfl rfl rfl ?_
  refine jp_load (pc2 := 319) (n := 13) rfl rfl rfl rfl ?_
  refine jp_load (pc2 := 321) (n := 4) rfl rfl rfl rfl ?_
  refine jp_bin (pc2 := 322) (v := x_13 + x_4) rfl rfl rfl ?_
  refine jp_load (pc2 := 324) (n := 7) rfl rfl rfl rfl ?_
  refine jp_load (pc2 := 325) (n := 0) rfl rfl rfl rfl ?_
  refine jp_getf (pc2 := 328) rfl rfl e2 e3 ?_
  refine jp_load (pc2 := 329) (n := 1) rfl rfl rfl rfl ?_
  refine jp_con (pc2 := 331) (v := .int 68) rfl rfl rfl ?_
  refine jp_bin (pc2 := 332) (v := x_1 + 68) rfl rfl rfl ?_
  refine jp_load (pc2 := 334) (n := 13) rfl rfl rfl rfl ?_
  refine jp_bin (pc2 := 335) (v := (x_1 + 68) + x_13) rfl rfl rfl ?_
  refine jp_load (pc2 := 337) (n := 4) rfl rfl rfl rfl ?_
  refine jp_bin (pc2 := 338) (v := ((x_1 + 68) + x_13) + x_4) rfl rfl rfl ?_
  refine jp_iald (pc2 := 339) rfl rfl e6 b7 ?_
  refine jp_con (pc2 := 340) (v := .int 1) rfl rfl rfl ?_
  refine jp_bin (pc2 := 341) (v := (f5 (((x_1 + 68) + x_13) + x_4).toNatClampNeg) - 1) rfl rfl rfl ?_
  refine jp_load (pc2 := 342) (n := 2) rfl rfl rfl rfl ?_
  exact jp_virt0 (pc2 := 345) (As := [(.int x_1), (.int (x_13 + x_4)), (.int x_7), (.int ((f5 (((x_1 + 68) + x_13) + x_4).toNatClampNeg) - 1)), (.int x_2)]) (rest := []) rfl rfl rfl (Nat.le_of_ble_eq_true rfl) e2 m8 m9 hc rfl K
set_option maxRecDepth 100000 in
theorem b108_345 {r_0 : Nat} {x_1 : Int32} {x_2 : Int32} {x_3 : Int32} {x_4 : Int32} {x_5 : Int32} {o_6 : Option Value} {o_7 : Option Value} {x_8 : Int32} {o_9 : Option Value} {o_10 : Option Value} {x_11 : Int32} {o_12 : Option Value} {x_13 : Int32} {o_14 : Option Value} {o_15 : Option Value} {fs1 : List Value} {P : ipQ} (e2 : h r_0 = some (.inr (9, fs1))) (m3 : c ≤ MC) (m4 : s ≤ MS) (hc : call 103 [(.ref r_0), (.int x_1), (.int (x_13 + x_4)), (.int 0), (.int x_5), (.int x_2)] h z 0 0 P) (K : ∀ (o : Option Value) (h2 : HP) (z2 : Nat), P o h2 z2 → ip sc call 108 MC MS Q 359 [some (.ref r_0), some (.int x_1), some (.int x_2), some (.int x_3), some (.int x_4), some (.int x_5), o_6, o_7, some (.int x_8), o_9, o_10, some (.int x_11), o_12, some (.int x_13), o_14, o_15] (o.toList ++ []) h2 z2 c s) : ip sc call 108 MC MS Q 345 [some (.ref r_0), some (.int x_1), some (.int x_2), some (.int x_3), some (.int x_4), some (.int x_5), o_6, o_7, some (.int x_8), o_9, o_10, some (.int x_11), o_12, some (.int x_13), o_14, o_15] [] h z c s := by
  refine jp_load (pc2 := 346) (n := 0) rfl rfl rfl rfl ?_
  refine jp_load (pc2 := 347) (n := 1) rfl rfl rfl rfl ?_
  refine jp_load (pc2 := 349) (n := 13) rfl rfl rfl rfl ?_
  refine jp_load (pc2 := 351) (n := 4) rfl rfl rfl rfl ?_
  refine jp_bin (pc2 := 352) (v := x_13 + x_4) rfl rfl rfl ?_
  refine jp_con (pc2 := 353) (v := .int 0) rfl rfl rfl ?_
  refine jp_load (pc2 := 355) (n := 5) rfl rfl rfl rfl ?_
  refine jp_load (pc2 := 356) (n := 2) rfl rfl rfl rfl ?_
  exact jp_virt0 (pc2 := 359) (As := [(.int x_1), (.int (x_13 + x_4)), (.int 0), (.int x_5), (.int x_2)]) (rest := []) rfl rfl rfl (Nat.le_of_ble_eq_true rfl) e2 m3 m4 hc rfl K
set_option maxRecDepth 100000 in
theorem b108_359 {r_0 : Nat} {x_1 : Int32} {x_2 : Int32} {x_3 : Int32} {x_4 : Int32} {o_5 : Option Value} {o_6 : Option Value} {o_7 : Option Value} {x_8 : Int32} {o_9 : Option Value} {o_10 : Option Value} {x_11 : Int32} {o_12 : Option Value} {x_13 : Int32} {o_14 : Option Value} {o_15 : Option Value} {fs1 : List Value} {P : ipQ} (e2 : h r_0 = some (.inr (9, fs1))) (m3 : c ≤ MC) (m4 : s ≤ MS) (hc : call 101 [(.ref r_0), (.int x_2), (.int x_11)] h z 0 0 P) (K : ∀ (o : Option Value) (h2 : HP) (z2 : Nat), P o h2 z2 → ip sc call 108 MC MS Q 366 [some (.ref r_0), some (.int x_1), some (.int x_2), some (.int x_3), some (.int x_4), o_5, o_6, o_7, some (.int x_8), o_9, o_10, some (.int x_11), o_12, some (.int x_13), o_14, o_15] (o.toList ++ []) h2 z2 c s) : ip sc call 108 MC MS Q 359 [some (.ref r_0), some (.int x_1), some (.int x_2), some (.int x_3), some (.int x_4), o_5, o_6, o_7, some (.int x_8), o_9, o_10, some (.int x_11), o_12, some (.int x_13), o_14, o_15] [] h z c s := by
  refine jp_load (pc2 := 360) (n := 0) rfl rfl rfl rfl ?_
  refine jp_load (pc2 := 361) (n := 2) rfl rfl rfl rfl ?_
  refine jp_load (pc2 := 363) (n := 11) rfl rfl rfl rfl ?_
  exact jp_virt0 (pc2 := 366) (As := [(.int x_2), (.int x_11)]) (rest := []) rfl rfl rfl (Nat.le_of_ble_eq_true rfl) e2 m3 m4 hc rfl K
set_option maxRecDepth 100000 in
theorem b108_366 {r_0 : Nat} {x_1 : Int32} {x_2 : Int32} {x_3 : Int32} {x_4 : Int32} {o_5 : Option Value} {o_6 : Option Value} {o_7 : Option Value} {x_8 : Int32} {o_9 : Option Value} {o_10 : Option Value} {x_11 : Int32} {o_12 : Option Value} {x_13 : Int32} {o_14 : Option Value} {o_15 : Option Value} {fs1 : List Value} {q_fs1_0 : Nat} {n4 : Nat} {f5 : Nat → Int32} {P : ipQ} (e2 : h r_0 = some (.inr (9, fs1))) (e3 : fs1[0]? = some (.ref q_fs1_0)) (e6 : h q_fs1_0 = some (.inl (0, n4, .inl f5))) (b7 : vp_in ((x_1 + 36) + x_3) n4) (m8 : c ≤ MC) (m9 : s ≤ MS) (hc : call 111 [(.ref r_0), (.int x_1), (.int x_2), (.int x_13), (.int (f5 ((x_1 + 36) + x_3).toNatClampNeg)), (.int x_4), (.int x_8), (.int 1)] h z 0 0 P) (K : ∀ (o : Option Value) (h2 : HP) (z2 : Nat), P o h2 z2 → ip sc call 108 MC MS Q 390 [some (.ref r_0), some (.int x_1), some (.int x_2), some (.int x_3), some (.int x_4), o_5, o_6, o_7, some (.int x_8), o_9, o_10, some (.int x_11), o_12, some (.int x_13), o_14, o_15] (o.toList ++ []) h2 z2 c s) : ip sc call 108 MC MS Q 366 [some (.ref r_0), some (.int x_1), some (.int x_2), some (.int x_3), some (.int x_4), o_5, o_6, o_7, some (.int x_8), o_9, o_10, some (.int x_11), o_12, some (.int x_13), o_14, o_15] [] h z c s := by
  refine jp_load (pc2 := 367) (n := 0) rfl rfl rfl rfl ?_
  refine jp_load (pc2 := 368) (n := 1) rfl rfl rfl rfl ?_
  refine jp_load (pc2 := 369) (n := 2) rfl rfl rfl rfl ?_
  refine jp_load (pc2 := 371) (n := 13) rfl rfl rfl rfl ?_
  refine jp_load (pc2 := 372) (n := 0) rfl rfl rfl rfl ?_
  refine jp_getf (pc2 := 375) rfl rfl e2 e3 ?_
  refine jp_load (pc2 := 376) (n := 1) rfl rfl rfl rfl ?_
  refine jp_con (pc2 := 378) (v := .int 36) rfl rfl rfl ?_
  refine jp_bin (pc2 := 379) (v := x_1 + 36) rfl rfl rfl ?_
  refine jp_load (pc2 := 380) (n := 3) rfl rfl rfl rfl ?_
  refine jp_bin (pc2 := 381) (v := (x_1 + 36) + x_3) rfl rfl rfl ?_
  refine jp_iald (pc2 := 382) rfl rfl e6 b7 ?_
  refine jp_load (pc2 := 384) (n := 4) rfl rfl rfl rfl ?_
  refine jp_load (pc2 := 386) (n := 8) rfl rfl rfl rfl ?_
  refine jp_con (pc2 := 387) (v := .int 1) rfl rfl rfl ?_
  exact jp_virt0 (pc2 := 390) (As := [(.int x_1), (.int x_2), (.int x_13), (.int (f5 ((x_1 + 36) + x_3).toNatClampNeg)), (.int x_4), (.int x_8), (.int 1)]) (rest := []) rfl rfl rfl (Nat.le_of_ble_eq_true rfl) e2 m8 m9 hc rfl K
set_option maxRecDepth 100000 in
theorem b108_390 {o_0 : Option Value} {o_1 : Option Value} {o_2 : Option Value} {o_3 : Option Value} {o_4 : Option Value} {o_5 : Option Value} {o_6 : Option Value} {o_7 : Option Value} {o_8 : Option Value} {o_9 : Option Value} {o_10 : Option Value} {x_11 : Int32} {o_12 : Option Value} {o_13 : Option Value} {o_14 : Option Value} {o_15 : Option Value} (q1 : Q (some (.int x_11)) h z)  : ip sc call 108 MC MS Q 390 [o_0, o_1, o_2, o_3, o_4, o_5, o_6, o_7, o_8, o_9, o_10, some (.int x_11), o_12, o_13, o_14, o_15] [] h z c s := by
  refine jp_load (pc2 := 392) (n := 11) rfl rfl rfl rfl ?_
  exact ip_iret (st := []) rfl rfl rfl q1
theorem b109_0 {r_0 : Nat} {x_1 : Int32} {x_2 : Int32} {x_3 : Int32} {x_4 : Int32} {x_5 : Int32} {x_6 : Int32} {x_7 : Int32} {x_8 : Int32} {x_9 : Int32} {o_10 : Option Value}  (K : ip sc call 109 MC MS Q 3 [some (.ref r_0), some (.int x_1), some (.int x_2), some (.int x_3), some (.int x_4), some (.int x_5), some (.int x_6), some (.int x_7), some (.int x_8), some (.int x_9), some (.int 0)] [] h z c s) : ip sc call 109 MC MS Q 0 [some (.ref r_0), some (.int x_1), some (.int x_2), some (.int x_3), some (.int x_4), some (.int x_5), some (.int x_6), some (.int x_7), some (.int x_8), some (.int x_9), o_10] [] h z c s := by
  refine jp_con (pc2 := 1) (v := .int 0) rfl rfl rfl ?_
  refine jp_store (pc2 := 3) (n := 10) rfl rfl ⟨rfl, rfl⟩ rfl (Nat.le_of_ble_eq_true rfl) ?_
  exact K
theorem b109_3 {r_0 : Nat} {x_1 : Int32} {x_2 : Int32} {x_3 : Int32} {x_4 : Int32} {x_5 : Int32} {x_6 : Int32} {x_7 : Int32} {x_8 : Int32} {x_9 : Int32} {x_10 : Int32}  (K1 : x_4 ≤ x_10 → ip sc call 109 MC MS Q 86 [some (.ref r_0), some (.int x_1), some (.int x_2), some (.int x_3), some (.int x_4), some (.int x_5), some (.int x_6), some (.int x_7), some (.int x_8), some (.int x_9), some (.int x_10)] [] h z c s) (K2 : ¬ (x_4 ≤ x_10) → ip sc call 109 MC MS Q 10 [some (.ref r_0), some (.int x_1), some (.int x_2), some (.int x_3), some (.int x_4), some (.int x_5), some (.int x_6), some (.int x_7), some (.int x_8), some (.int x_9), some (.int x_10)] [] h z c s) : ip sc call 109 MC MS Q 3 [some (.ref r_0), some (.int x_1), some (.int x_2), some (.int x_3), some (.int x_4), some (.int x_5), some (.int x_6), some (.int x_7), some (.int x_8), some (.int x_9), some (.int x_10)] [] h z c s := by
  refine jp_load (pc2 := 5) (n := 10) rfl rfl rfl rfl ?_
  refine jp_load (pc2 := 7) (n := 4) rfl rfl rfl rfl ?_
  exact jp_icmp (pc2 := 10) rfl rfl K1 K2
theorem b109_10 {r_0 : Nat} {x_1 : Int32} {x_2 : Int32} {x_3 : Int32} {x_4 : Int32} {x_5 : Int32} {x_6 : Int32} {x_7 : Int32} {x_8 : Int32} {x_9 : Int32} {x_10 : Int32}  (K1 : ¬ x_10 = x_5 → ip sc call 109 MC MS Q 63 [some (.ref r_0), some (.int x_1), some (.int x_2), some (.int x_3), some (.int x_4), some (.int x_5), some (.int x_6), some (.int x_7), some (.int x_8), some (.int x_9), some (.int x_10)] [] h z c s) (K2 : ¬ (¬ x_10 = x_5) → ip sc call 109 MC MS Q 17 [some (.ref r_0), some (.int x_1), some (.int x_2), some (.int x_3), some (.int x_4), some (.int x_5), some (.int x_6), some (.int x_7), some (.int x_8), some (.int x_9), some (.int x_10)] [] h z c s) : ip sc call 109 MC MS Q 10 [some (.ref r_0), some (.int x_1), some (.int x_2), some (.int x_3), some (.int x_4), some (.int x_5), some (.int x_6), some (.int x_7), some (.int x_8), some (.int x_9), some (.int x_10)] [] h z c s := by
  refine jp_load (pc2 := 12) (n := 10) rfl rfl rfl rfl ?_
  refine jp_load (pc2 := 14) (n := 5) rfl rfl rfl rfl ?_
  exact jp_icmp (pc2 := 17) rfl rfl K1 K2
theorem b109_17 {r_0 : Nat} {x_1 : Int32} {x_2 : Int32} {x_3 : Int32} {x_4 : Int32} {x_5 : Int32} {x_6 : Int32} {x_7 : Int32} {x_8 : Int32} {x_9 : Int32} {x_10 : Int32} {fs1 : List Value} {P : ipQ} (e2 : h r_0 = some (.inr (9, fs1))) (m3 : c ≤ MC) (m4 : s ≤ MS) (hc : call 99 [(.ref r_0), (.int x_2)] h z 0 0 P) (K : ∀ (o : Option Value) (h2 : HP) (z2 : Nat), P o h2 z2 → ip sc call 109 MC MS Q 22 [some (.ref r_0), some (.int x_1), some (.int x_2), some (.int x_3), some (.int x_4), some (.int x_5), some (.int x_6), some (.int x_7), some (.int x_8), some (.int x_9), some (.int x_10)] (o.toList ++ []) h2 z2 c s) : ip sc call 109 MC MS Q 17 [some (.ref r_0), some (.int x_1), some (.int x_2), some (.int x_3), some (.int x_4), some (.int x_5), some (.int x_6), some (.int x_7), some (.int x_8), some (.int x_9), some (.int x_10)] [] h z c s := by
  refine jp_load (pc2 := 18) (n := 0) rfl rfl rfl rfl ?_
  refine jp_load (pc2 := 19) (n := 2) rfl rfl rfl rfl ?_
  exact jp_virt0 (pc2 := 22) (As := [(.int x_2)]) (rest := []) rfl rfl rfl (Nat.le_of_ble_eq_true rfl) e2 m3 m4 hc rfl K
theorem b109_22 {r_0 : Nat} {x_1 : Int32} {x_2 : Int32} {x_3 : Int32} {x_4 : Int32} {x_5 : Int32} {x_6 : Int32} {x_7 : Int32} {x_8 : Int32} {x_9 : Int32} {x_10 : Int32} {fs1 : List Value} {P : ipQ} (e2 : h r_0 = some (.inr (9, fs1))) (m3 : c ≤ MC) (m4 : s ≤ MS) (hc : call 104 [(.ref r_0), (.int x_1), (.int (x_3 + x_5)), (.int x_6), (.int x_2)] h z 0 0 P) (K : ∀ (o : Option Value) (h2 : HP) (z2 : Nat), P o h2 z2 → ip sc call 109 MC MS Q 34 [some (.ref r_0), some (.int x_1), some (.int x_2), some (.int x_3), some (.int x_4), some (.int x_5), some (.int x_6), some (.int x_7), some (.int x_8), some (.int x_9), some (.int x_10)] (o.toList ++ []) h2 z2 c s) : ip sc call 109 MC MS Q 22 [some (.ref r_0), some (.int x_1), some (.int x_2), some (.int x_3), some (.int x_4), some (.int x_5), some (.int x_6), some (.int x_7), some (.int x_8), some (.int x_9), some (.int x_10)] [] h z c s := by
  refine jp_load (pc2 := 23) (n := 0) rfl rfl rfl rfl ?_
  refine jp_load (pc2 := 24) (n := 1) rfl rfl rfl rfl ?_
  refine jp_load (pc2 := 25) (n := 3) rfl rfl rfl rfl ?_
  refine jp_load (pc2 := 27) (n := 5) rfl rfl rfl rfl ?_
  refine jp_bin (pc2 := 28) (v := x_3 + x_5) rfl rfl rfl ?_
  refine jp_load (pc2 := 30) (n := 6) rfl rfl rfl rfl ?_
  refine jp_load (pc2 := 31) (n := 2) rfl rfl rfl rfl ?_
  exact jp_virt0 (pc2 := 34) (As := [(.int x_1), (.int (x_3 + x_5)), (.int x_6), (.int x_2)]) (rest := []) rfl rfl rfl (Nat.le_of_ble_eq_true rfl) e2 m3 m4 hc rfl K
theorem b109_34 {r_0 : Nat} {x_1 : Int32} {x_2 : Int32} {x_3 : Int32} {x_4 : Int32} {x_5 : Int32} {x_6 : Int32} {x_7 : Int32} {x_8 : Int32} {x_9 : Int32} {x_10 : Int32} {fs1 : List Value} {P : ipQ} (e2 : h r_0 = some (.inr (9, fs1))) (m3 : c ≤ MC) (m4 : s ≤ MS) (hc : call 101 [(.ref r_0), (.int x_2), (.int x_9)] h z 0 0 P) (K : ∀ (o : Option Value) (h2 : HP) (z2 : Nat), P o h2 z2 → ip sc call 109 MC MS Q 41 [some (.ref r_0), some (.int x_1), some (.int x_2), some (.int x_3), some (.int x_4), some (.int x_5), some (.int x_6), some (.int x_7), some (.int x_8), some (.int x_9), some (.int x_10)] (o.toList ++ []) h2 z2 c s) : ip sc call 109 MC MS Q 34 [some (.ref r_0), some (.int x_1), some (.int x_2), some (.int x_3), some (.int x_4), some (.int x_5), some (.int x_6), some (.int x_7), some (.int x_8), some (.int x_9), some (.int x_10)] [] h z c s := by
  refine jp_load (pc2 := 35) (n := 0) rfl rfl rfl rfl ?_
  refine jp_load (pc2 := 36) (n := 2) rfl rfl rfl rfl ?_
  refine jp_load (pc2 := 38) (n := 9) rfl rfl rfl rfl ?_
  exact jp_virt0 (pc2 := 41) (As := [(.int x_2), (.int x_9)]) (rest := []) rfl rfl rfl (Nat.le_of_ble_eq_true rfl) e2 m3 m4 hc rfl K
theorem b109_41 {r_0 : Nat} {x_1 : Int32} {x_2 : Int32} {x_3 : Int32} {x_4 : Int32} {x_5 : Int32} {x_6 : Int32} {x_7 : Int32} {x_8 : Int32} {x_9 : Int32} {x_10 : Int32} {fs1 : List Value} {P : ipQ} (e2 : h r_0 = some (.inr (9, fs1))) (m3 : c ≤ MC) (m4 : s ≤ MS) (hc : call 104 [(.ref r_0), (.int x_1), (.int (x_3 + x_7)), (.int x_8), (.int x_2)] h z 0 0 P) (K : ∀ (o : Option Value) (h2 : HP) (z2 : Nat), P o h2 z2 → ip sc call 109 MC MS Q 53 [some (.ref r_0), some (.int x_1), some (.int x_2), some (.int x_3), some (.int x_4), some (.int x_5), some (.int x_6), some (.int x_7), some (.int x_8), some (.int x_9), some (.int x_10)] (o.toList ++ []) h2 z2 c s) : ip sc call 109 MC MS Q 41 [some (.ref r_0), some (.int x_1), some (.int x_2), some (.int x_3), some (.int x_4), some (.int x_5), some (.int x_6), some (.int x_7), some (.int x_8), some (.int x_9), some (.int x_10)] [] h z c s := by
  refine jp_load (pc2 := 42) (n := 0) rfl rfl rfl rfl ?_
  refine jp_load (pc2 := 43) (n := 1) rfl rfl rfl rfl ?_
  refine jp_load (pc2 := 44) (n := 3) rfl rfl rfl rfl ?_
  refine jp_load (pc2 := 46) (n := 7) rfl rfl rfl rfl ?_
  refine jp_bin (pc2 := 47) (v := x_3 + x_7) rfl rfl rfl ?_
  refine jp_load (pc2 := 49) (n := 8) rfl rfl rfl rfl ?_
  refine jp_load (pc2 := 50) (n := 2) rfl rfl rfl rfl ?_
  exact jp_virt0 (pc2 := 53) (As := [(.int x_1), (.int (x_3 + x_7)), (.int x_8), (.int x_2)]) (rest := []) rfl rfl rfl (Nat.le_of_ble_eq_true rfl) e2 m3 m4 hc rfl K
theorem b109_53 {r_0 : Nat} {x_1 : Int32} {x_2 : Int32} {x_3 : Int32} {x_4 : Int32} {x_5 : Int32} {x_6 : Int32} {x_7 : Int32} {x_8 : Int32} {x_9 : Int32} {x_10 : Int32} {fs1 : List Value} {P : ipQ} (e2 : h r_0 = some (.inr (9, fs1))) (m3 : c ≤ MC) (m4 : s ≤ MS) (hc : call 101 [(.ref r_0), (.int x_2), (.int x_9)] h z 0 0 P) (K : ∀ (o : Option Value) (h2 : HP) (z2 : Nat), P o h2 z2 → ip sc call 109 MC MS Q 60 [some (.ref r_0), some (.int x_1), some (.int x_2), some (.int x_3), some (.int x_4), some (.int x_5), some (.int x_6), some (.int x_7), some (.int x_8), some (.int x_9), some (.int x_10)] (o.toList ++ []) h2 z2 c s) : ip sc call 109 MC MS Q 53 [some (.ref r_0), some (.int x_1), some (.int x_2), some (.int x_3), some (.int x_4), some (.int x_5), some (.int x_6), some (.int x_7), some (.int x_8), some (.int x_9), some (.int x_10)] [] h z c s := by
  refine jp_load (pc2 := 54) (n := 0) rfl rfl rfl rfl ?_
  refine jp_load (pc2 := 55) (n := 2) rfl rfl rfl rfl ?_
  refine jp_load (pc2 := 57) (n := 9) rfl rfl rfl rfl ?_
  exact jp_virt0 (pc2 := 60) (As := [(.int x_2), (.int x_9)]) (rest := []) rfl rfl rfl (Nat.le_of_ble_eq_true rfl) e2 m3 m4 hc rfl K
theorem b109_60 {r_0 : Nat} {x_1 : Int32} {x_2 : Int32} {x_3 : Int32} {x_4 : Int32} {x_5 : Int32} {x_6 : Int32} {x_7 : Int32} {x_8 : Int32} {x_9 : Int32} {x_10 : Int32}  (K : ip sc call 109 MC MS Q 80 [some (.ref r_0), some (.int x_1), some (.int x_2), some (.int x_3), some (.int x_4), some (.int x_5), some (.int x_6), some (.int x_7), some (.int x_8), some (.int x_9), some (.int x_10)] [] h z c s) : ip sc call 109 MC MS Q 60 [some (.ref r_0), some (.int x_1), some (.int x_2), some (.int x_3), some (.int x_4), some (.int x_5), some (.int x_6), some (.int x_7), some (.int x_8), some (.int x_9), some (.int x_10)] [] h z c s := by
  refine ip_goto rfl ?_
  exact K
theorem b109_63 {r_0 : Nat} {x_1 : Int32} {x_2 : Int32} {x_3 : Int32} {x_4 : Int32} {x_5 : Int32} {x_6 : Int32} {x_7 : Int32} {x_8 : Int32} {x_9 : Int32} {x_10 : Int32}  (K1 : x_10 = x_7 → ip sc call 109 MC MS Q 80 [some (.ref r_0), some (.int x_1), some (.int x_2), some (.int x_3), some (.int x_4), some (.int x_5), some (.int x_6), some (.int x_7), some (.int x_8), some (.int x_9), some (.int x_10)] [] h z c s) (K2 : ¬ (x_10 = x_7) → ip sc call 109 MC MS Q 70 [some (.ref r_0), some (.int x_1), some (.int x_2), some (.int x_3), some (.int x_4), some (.int x_5), some (.int x_6), some (.int x_7), some (.int x_8), some (.int x_9), some (.int x_10)] [] h z c s) : ip sc call 109 MC MS Q 63 [some (.ref r_0), some (.int x_1), some (.int x_2), some (.int x_3), some (.int x_4), some (.int x_5), some (.int x_6), some (.int x_7), some (.int x_8), some (.int x_9), some (.int x_10)] [] h z c s := by
  refine jp_load (pc2 := 65) (n := 10) rfl rfl rfl rfl ?_
  refine jp_load (pc2 := 67) (n := 7) rfl rfl rfl rfl ?_
  exact jp_icmp (pc2 := 70) rfl rfl K1 K2
theorem b109_70 {r_0 : Nat} {x_1 : Int32} {x_2 : Int32} {x_3 : Int32} {x_4 : Int32} {x_5 : Int32} {x_6 : Int32} {x_7 : Int32} {x_8 : Int32} {x_9 : Int32} {x_10 : Int32} {fs1 : List Value} {P : ipQ} (e2 : h r_0 = some (.inr (9, fs1))) (m3 : c ≤ MC) (m4 : s ≤ MS) (hc : call 102 [(.ref r_0), (.int x_1), (.int (x_3 + x_10)), (.int x_2)] h z 0 0 P) (K : ∀ (o : Option Value) (h2 : HP) (z2 : Nat), P o h2 z2 → ip sc call 109 MC MS Q 80 [some (.ref r_0), some (.int x_1), some (.int x_2), some (.int x_3), some (.int x_4), some (.int x_5), some (.int x_6), some (.int x_7), some (.int x_8), some (.int x_9), some (.int x_10)] (o.toList ++ []) h2 z2 c s) : ip sc call 109 MC MS Q 70 [some (.ref r_0), some (.int x_1), some (.int x_2), some (.int x_3), some (.int x_4), some (.int x_5), some (.int x_6), some (.int x_7), some (.int x_8), some (.int x_9), some (.int x_10)] [] h z c s := by
  refine jp_load (pc2 := 71) (n := 0) rfl rfl rfl rfl ?_
  refine jp_load (pc2 := 72) (n := 1) rfl rfl rfl rfl ?_
  refine jp_load (pc2 := 73) (n := 3) rfl rfl rfl rfl ?_
  refine jp_load (pc2 := 75) (n := 10) rfl rfl rfl rfl ?_
  refine jp_bin (pc2 := 76) (v := x_3 + x_10) rfl rfl rfl ?_
  refine jp_load (pc2 := 77) (n := 2) rfl rfl rfl rfl ?_
  exact jp_virt0 (pc2 := 80) (As := [(.int x_1), (.int (x_3 + x_10)), (.int x_2)]) (rest := []) rfl rfl rfl (Nat.le_of_ble_eq_true rfl) e2 m3 m4 hc rfl K
theorem b109_80 {r_0 : Nat} {x_1 : Int32} {x_2 : Int32} {x_3 : Int32} {x_4 : Int32} {x_5 : Int32} {x_6 : Int32} {x_7 : Int32} {x_8 : Int32} {x_9 : Int32} {x_10 : Int32}  (K : ip sc call 109 MC MS Q 3 [some (.ref r_0), some (.int x_1), some (.int x_2), some (.int x_3), some (.int x_4), some (.int x_5), some (.int x_6), some (.int x_7), some (.int x_8), some (.int x_9), some (.int (x_10 + 1))] [] h z c s) : ip sc call 109 MC MS Q 80 [some (.ref r_0), some (.int x_1), some (.int x_2), some (.int x_3), some (.int x_4), some (.int x_5), some (.int x_6), some (.int x_7), some (.int x_8), some (.int x_9), some (.int x_10)] [] h z c s := by
  refine jp_iinc (pc2 := 83) (n := 10) (v := x_10 + 1) rfl rfl rfl rfl rfl ?_
  refine ip_goto rfl ?_
  exact K
theorem b109_86 {o_0 : Option Value} {o_1 : Option Value} {o_2 : Option Value} {o_3 : Option Value} {o_4 : Option Value} {o_5 : Option Value} {o_6 : Option Value} {o_7 : Option Value} {o_8 : Option Value} {o_9 : Option Value} {o_10 : Option Value} (q1 : Q none h z)  : ip sc call 109 MC MS Q 86 [o_0, o_1, o_2, o_3, o_4, o_5, o_6, o_7, o_8, o_9, o_10] [] h z c s := by
  exact ip_vret (st := []) rfl rfl q1
theorem b110_0 {r_0 : Nat} {x_1 : Int32} {x_2 : Int32} {x_3 : Int32} {x_4 : Int32} {x_5 : Int32} {x_6 : Int32} {x_7 : Int32} {x_8 : Int32} {x_9 : Int32} {fs1 : List Value} {P : ipQ} (e2 : h r_0 = some (.inr (9, fs1))) (m3 : c ≤ MC) (m4 : s ≤ MS) (hc : call 99 [(.ref r_0), (.int x_2)] h z 0 0 P) (K : ∀ (o : Option Value) (h2 : HP) (z2 : Nat), P o h2 z2 → ip sc call 110 MC MS Q 5 [some (.ref r_0), some (.int x_1), some (.int x_2), some (.int x_3), some (.int x_4), some (.int x_5), some (.int x_6), some (.int x_7), some (.int x_8), some (.int x_9)] (o.toList ++ []) h2 z2 c s) : ip sc call 110 MC MS Q 0 [some (.ref r_0), some (.int x_1), some (.int x_2), some (.int x_3), some (.int x_4), some (.int x_5), some (.int x_6), some (.int x_7), some (.int x_8), some (.int x_9)] [] h z c s := by
  refine jp_load (pc2 := 1) (n := 0) rfl rfl rfl rfl ?_
  refine jp_load (pc2 := 2) (n := 2) rfl rfl rfl rfl ?_
  exact jp_virt0 (pc2 := 5) (As := [(.int x_2)]) (rest := []) rfl rfl rfl (Nat.le_of_ble_eq_true rfl) e2 m3 m4 hc rfl K
theorem b110_5 {r_0 : Nat} {x_1 : Int32} {x_2 : Int32} {x_3 : Int32} {x_4 : Int32} {x_5 : Int32} {x_6 : Int32} {x_7 : Int32} {x_8 : Int32} {x_9 : Int32} {fs1 : List Value} {P : ipQ} (e2 : h r_0 = some (.inr (9, fs1))) (m3 : c ≤ MC) (m4 : s ≤ MS) (hc : call 103 [(.ref r_0), (.int x_1), (.int (x_3 + x_5)), (.int x_6), (.int x_7), (.int x_2)] h z 0 0 P) (K : ∀ (o : Option Value) (h2 : HP) (z2 : Nat), P o h2 z2 → ip sc call 110 MC MS Q 19 [some (.ref r_0), some (.int x_1), some (.int x_2), some (.int x_3), some (.int x_4), some (.int x_5), some (.int x_6), some (.int x_7), some (.int x_8), some (.int x_9)] (o.toList ++ []) h2 z2 c s) : ip sc call 110 MC MS Q 5 [some (.ref r_0), some (.int x_1), some (.int x_2), some (.int x_3), some (.int x_4), some (.int x_5), some (.int x_6), some (.int x_7), some (.int x_8), some (.int x_9)] [] h z c s := by
  refine jp_load (pc2 := 6) (n := 0) rfl rfl rfl rfl ?_
  refine jp_load (pc2 := 7) (n := 1) rfl rfl rfl rfl ?_
  refine jp_load (pc2 := 8) (n := 3) rfl rfl rfl rfl ?_
  refine jp_load (pc2 := 10) (n := 5) rfl rfl rfl rfl ?_
  refine jp_bin (pc2 := 11) (v := x_3 + x_5) rfl rfl rfl ?_
  refine jp_load (pc2 := 13) (n := 6) rfl rfl rfl rfl ?_
  refine jp_load (pc2 := 15) (n := 7) rfl rfl rfl rfl ?_
  refine jp_load (pc2 := 16) (n := 2) rfl rfl rfl rfl ?_
  exact jp_virt0 (pc2 := 19) (As := [(.int x_1), (.int (x_3 + x_5)), (.int x_6), (.int x_7), (.int x_2)]) (rest := []) rfl rfl rfl (Nat.le_of_ble_eq_true rfl) e2 m3 m4 hc rfl K
theorem b110_19 {r_0 : Nat} {x_1 : Int32} {x_2 : Int32} {x_3 : Int32} {x_4 : Int32} {x_5 : Int32} {o_6 : Option Value} {o_7 : Option Value} {x_8 : Int32} {x_9 : Int32} {fs1 : List Value} {P : ipQ} (e2 : h r_0 = some (.inr (9, fs1))) (m3 : c ≤ MC) (m4 : s ≤ MS) (hc : call 101 [(.ref r_0), (.int x_2), (.int x_8)] h z 0 0 P) (K : ∀ (o : Option Value) (h2 : HP) (z2 : Nat), P o h2 z2 → ip sc call 110 MC MS Q 26 [some (.ref r_0), some (.int x_1), some (.int x_2), some (.int x_3), some (.int x_4), some (.int x_5), o_6, o_7, some (.int x_8), some (.int x_9)] (o.toList ++ []) h2 z2 c s) : ip sc call 110 MC MS Q 19 [some (.ref r_0), some (.int x_1), some (.int x_2), some (.int x_3), some (.int x_4), some (.int x_5), o_6, o_7, some (.int x_8), some (.int x_9)] [] h z c s := by
  refine jp_load (pc2 := 20) (n := 0) rfl rfl rfl rfl ?_
  refine jp_load (pc2 := 21) (n := 2) rfl rfl rfl rfl ?_
  refine jp_load (pc2 := 23) (n := 8) rfl rfl rfl rfl ?_
  exact jp_virt0 (pc2 := 26) (As := [(.int x_2), (.int x_8)]) (rest := []) rfl rfl rfl (Nat.le_of_ble_eq_true rfl) e2 m3 m4 hc rfl K
theorem b110_26 {r_0 : Nat} {x_1 : Int32} {x_2 : Int32} {x_3 : Int32} {x_4 : Int32} {x_5 : Int32} {o_6 : Option Value} {o_7 : Option Value} {o_8 : Option Value} {x_9 : Int32} {fs1 : List Value} {P : ipQ} (e2 : h r_0 = some (.inr (9, fs1))) (m3 : c ≤ MC) (m4 : s ≤ MS) (hc : call 111 [(.ref r_0), (.int x_1), (.int x_2), (.int x_3), (.int x_4), (.int x_5), (.int x_9), (.int 0)] h z 0 0 P) (K : ∀ (o : Option Value) (h2 : HP) (z2 : Nat), P o h2 z2 → ip sc call 110 MC MS Q 40 [some (.ref r_0), some (.int x_1), some (.int x_2), some (.int x_3), some (.int x_4), some (.int x_5), o_6, o_7, o_8, some (.int x_9)] (o.toList ++ []) h2 z2 c s) : ip sc call 110 MC MS Q 26 [some (.ref r_0), some (.int x_1), some (.int x_2), some (.int x_3), some (.int x_4), some (.int x_5), o_6, o_7, o_8, some (.int x_9)] [] h z c s := by
  refine jp_load (pc2 := 27) (n := 0) rfl rfl rfl rfl ?_
  refine jp_load (pc2 := 28) (n := 1) rfl rfl rfl rfl ?_
  refine jp_load (pc2 := 29) (n := 2) rfl rfl rfl rfl ?_
  refine jp_load (pc2 := 30) (n := 3) rfl rfl rfl rfl ?_
  refine jp_load (pc2 := 32) (n := 4) rfl rfl rfl rfl ?_
  refine jp_load (pc2 := 34) (n := 5) rfl rfl rfl rfl ?_
  refine jp_load (pc2 := 36) (n := 9) rfl rfl rfl rfl ?_
  refine jp_con (pc2 := 37) (v := .int 0) rfl rfl rfl ?_
  exact jp_virt0 (pc2 := 40) (As := [(.int x_1), (.int x_2), (.int x_3), (.int x_4), (.int x_5), (.int x_9), (.int 0)]) (rest := []) rfl rfl rfl (Nat.le_of_ble_eq_true rfl) e2 m3 m4 hc rfl K
theorem b110_40 {o_0 : Option Value} {o_1 : Option Value} {o_2 : Option Value} {o_3 : Option Value} {o_4 : Option Value} {o_5 : Option Value} {o_6 : Option Value} {o_7 : Option Value} {o_8 : Option Value} {o_9 : Option Value} (q1 : Q none h z)  : ip sc call 110 MC MS Q 40 [o_0, o_1, o_2, o_3, o_4, o_5, o_6, o_7, o_8, o_9] [] h z c s := by
  exact ip_vret (st := []) rfl rfl q1
theorem b111_0 {r_0 : Nat} {x_1 : Int32} {x_2 : Int32} {x_3 : Int32} {x_4 : Int32} {x_5 : Int32} {x_6 : Int32} {x_7 : Int32} {o_8 : Option Value} {o_9 : Option Value}  (K : ip sc call 111 MC MS Q 6 [some (.ref r_0), some (.int x_1), some (.int x_2), some (.int x_3), some (.int x_4), some (.int x_5), some (.int x_6), some (.int x_7), some (.int 0), some (.int 0)] [] h z c s) : ip sc call 111 MC MS Q 0 [some (.ref r_0), some (.int x_1), some (.int x_2), some (.int x_3), some (.int x_4), some (.int x_5), some (.int x_6), some (.int x_7), o_8, o_9] [] h z c s := by
  refine jp_con (pc2 := 1) (v := .int 0) rfl rfl rfl ?_
  refine jp_store (pc2 := 3) (n := 8) rfl rfl ⟨rfl, rfl⟩ rfl (Nat.le_of_ble_eq_true rfl) ?_
  refine jp_con (pc2 := 4) (v := .int 0) rfl rfl rfl ?_
  refine jp_store (pc2 := 6) (n := 9) rfl rfl ⟨rfl, rfl⟩ rfl (Nat.le_of_ble_eq_true rfl) ?_
  exact K
theorem b111_6 {r_0 : Nat} {x_1 : Int32} {x_2 : Int32} {x_3 : Int32} {x_4 : Int32} {x_5 : Int32} {x_6 : Int32} {x_7 : Int32} {x_8 : Int32} {x_9 : Int32}  (K1 : x_4 ≤ x_9 → ip sc call 111 MC MS Q 54 [some (.ref r_0), some (.int x_1), some (.int x_2), some (.int x_3), some (.int x_4), some (.int x_5), some (.int x_6), some (.int x_7), some (.int x_8), some (.int x_9)] [] h z c s) (K2 : ¬ (x_4 ≤ x_9) → ip sc call 111 MC MS Q 13 [some (.ref r_0), some (.int x_1), some (.int x_2), some (.int x_3), some (.int x_4), some (.int x_5), some (.int x_6), some (.int x_7), some (.int x_8), some (.int x_9)] [] h z c s) : ip sc call 111 MC MS Q 6 [some (.ref r_0), some (.int x_1), some (.int x_2), some (.int x_3), some (.int x_4), some (.int x_5), some (.int x_6), some (.int x_7), some (.int x_8), some (.int x_9)] [] h z c s := by
  refine jp_load (pc2 := 8) (n := 9) rfl rfl rfl rfl ?_
  refine jp_load (pc2 := 10) (n := 4) rfl rfl rfl rfl ?_
  exact jp_icmp (pc2 := 13) rfl rfl K1 K2
theorem b111_13 {r_0 : Nat} {x_1 : Int32} {x_2 : Int32} {x_3 : Int32} {x_4 : Int32} {x_5 : Int32} {x_6 : Int32} {x_7 : Int32} {x_8 : Int32} {x_9 : Int32}  (K1 : ¬ x_9 = x_5 → ip sc call 111 MC MS Q 23 [some (.ref r_0), some (.int x_1), some (.int x_2), some (.int x_3), some (.int x_4), some (.int x_5), some (.int x_6), some (.int x_7), some (.int x_8), some (.int x_9)] [] h z c s) (K2 : ¬ (¬ x_9 = x_5) → ip sc call 111 MC MS Q 20 [some (.ref r_0), some (.int x_1), some (.int x_2), some (.int x_3), some (.int x_4), some (.int x_5), some (.int x_6), some (.int x_7), some (.int x_8), some (.int x_9)] [] h z c s) : ip sc call 111 MC MS Q 13 [some (.ref r_0), some (.int x_1), some (.int x_2), some (.int x_3), some (.int x_4), some (.int x_5), some (.int x_6), some (.int x_7), some (.int x_8), some (.int x_9)] [] h z c s := by
  refine jp_load (pc2 := 15) (n := 9) rfl rfl rfl rfl ?_
  refine jp_load (pc2 := 17) (n := 5) rfl rfl rfl rfl ?_
  exact jp_icmp (pc2 := 20) rfl rfl K1 K2
theorem b111_20 {r_0 : Nat} {x_1 : Int32} {x_2 : Int32} {x_3 : Int32} {x_4 : Int32} {x_5 : Int32} {x_6 : Int32} {x_7 : Int32} {x_8 : Int32} {x_9 : Int32}  (K : ip sc call 111 MC MS Q 48 [some (.ref r_0), some (.int x_1), some (.int x_2), some (.int x_3), some (.int x_4), some (.int x_5), some (.int x_6), some (.int x_7), some (.int x_8), some (.int x_9)] [] h z c s) : ip sc call 111 MC MS Q 20 [some (.ref r_0), some (.int x_1), some (.int x_2), some (.int x_3), some (.int x_4), some (.int x_5), some (.int x_6), some (.int x_7), some (.int x_8), some (.int x_9)] [] h z c s := by
  refine ip_goto rfl ?_
  exact K
theorem b111_23 {r_0 : Nat} {x_1 : Int32} {x_2 : Int32} {x_3 : Int32} {x_4 : Int32} {x_5 : Int32} {x_6 : Int32} {x_7 : Int32} {x_8 : Int32} {x_9 : Int32}  (K1 : ¬ ((x_6 >>> (x_8 &&& 31)) &&& 1) = x_7 → ip sc call 111 MC MS Q 45 [some (.ref r_0), some (.int x_1), some (.int x_2), some (.int x_3), some (.int x_4), some (.int x_5), some (.int x_6), some (.int x_7), some (.int x_8), some (.int x_9)] [] h z c s) (K2 : ¬ (¬ ((x_6 >>> (x_8 &&& 31)) &&& 1) = x_7) → ip sc call 111 MC MS Q 35 [some (.ref r_0), some (.int x_1), some (.int x_2), some (.int x_3), some (.int x_4), some (.int x_5), some (.int x_6), some (.int x_7), some (.int x_8), some (.int x_9)] [] h z c s) : ip sc call 111 MC MS Q 23 [some (.ref r_0), some (.int x_1), some (.int x_2), some (.int x_3), some (.int x_4), some (.int x_5), some (.int x_6), some (.int x_7), some (.int x_8), some (.int x_9)] [] h z c s := by
  refine jp_load (pc2 := 25) (n := 6) rfl rfl rfl rfl ?_
  refine jp_load (pc2 := 27) (n := 8) rfl rfl rfl rfl ?_
  refine jp_bin (pc2 := 28) (v := x_6 >>> (x_8 &&& 31)) rfl rfl rfl ?_
  refine jp_con (pc2 := 29) (v := .int 1) rfl rfl rfl ?_
  refine jp_bin (pc2 := 30) (v := (x_6 >>> (x_8 &&& 31)) &&& 1) rfl rfl rfl ?_
  refine jp_load (pc2 := 32) (n := 7) rfl rfl rfl rfl ?_
  exact jp_icmp (pc2 := 35) rfl rfl K1 K2
theorem b111_35 {r_0 : Nat} {x_1 : Int32} {x_2 : Int32} {x_3 : Int32} {x_4 : Int32} {x_5 : Int32} {x_6 : Int32} {x_7 : Int32} {x_8 : Int32} {x_9 : Int32} {fs1 : List Value} {P : ipQ} (e2 : h r_0 = some (.inr (9, fs1))) (m3 : c ≤ MC) (m4 : s ≤ MS) (hc : call 102 [(.ref r_0), (.int x_1), (.int (x_3 + x_9)), (.int x_2)] h z 0 0 P) (K : ∀ (o : Option Value) (h2 : HP) (z2 : Nat), P o h2 z2 → ip sc call 111 MC MS Q 45 [some (.ref r_0), some (.int x_1), some (.int x_2), some (.int x_3), some (.int x_4), some (.int x_5), some (.int x_6), some (.int x_7), some (.int x_8), some (.int x_9)] (o.toList ++ []) h2 z2 c s) : ip sc call 111 MC MS Q 35 [some (.ref r_0), some (.int x_1), some (.int x_2), some (.int x_3), some (.int x_4), some (.int x_5), some (.int x_6), some (.int x_7), some (.int x_8), some (.int x_9)] [] h z c s := by
  refine jp_load (pc2 := 36) (n := 0) rfl rfl rfl rfl ?_
  refine jp_load (pc2 := 37) (n := 1) rfl rfl rfl rfl ?_
  refine jp_load (pc2 := 38) (n := 3) rfl rfl rfl rfl ?_
  refine jp_load (pc2 := 40) (n := 9) rfl rfl rfl rfl ?_
  refine jp_bin (pc2 := 41) (v := x_3 + x_9) rfl rfl rfl ?_
  refine jp_load (pc2 := 42) (n := 2) rfl rfl rfl rfl ?_
  exact jp_virt0 (pc2 := 45) (As := [(.int x_1), (.int (x_3 + x_9)), (.int x_2)]) (rest := []) rfl rfl rfl (Nat.le_of_ble_eq_true rfl) e2 m3 m4 hc rfl K
theorem b111_45 {r_0 : Nat} {x_1 : Int32} {x_2 : Int32} {x_3 : Int32} {x_4 : Int32} {x_5 : Int32} {x_6 : Int32} {x_7 : Int32} {x_8 : Int32} {x_9 : Int32}  (K : ip sc call 111 MC MS Q 48 [some (.ref r_0), some (.int x_1), some (.int x_2), some (.int x_3), some (.int x_4), some (.int x_5), some (.int x_6), some (.int x_7), some (.int (x_8 + 1)), some (.int x_9)] [] h z c s) : ip sc call 111 MC MS Q 45 [some (.ref r_0), some (.int x_1), some (.int x_2), some (.int x_3), some (.int x_4), some (.int x_5), some (.int x_6), some (.int x_7), some (.int x_8), some (.int x_9)] [] h z c s := by
  refine jp_iinc (pc2 := 48) (n := 8) (v := x_8 + 1) rfl rfl rfl rfl rfl ?_
  exact K
theorem b111_48 {r_0 : Nat} {x_1 : Int32} {x_2 : Int32} {x_3 : Int32} {x_4 : Int32} {x_5 : Int32} {x_6 : Int32} {x_7 : Int32} {x_8 : Int32} {x_9 : Int32}  (K : ip sc call 111 MC MS Q 6 [some (.ref r_0), some (.int x_1), some (.int x_2), some (.int x_3), some (.int x_4), some (.int x_5), some (.int x_6), some (.int x_7), some (.int x_8), some (.int (x_9 + 1))] [] h z c s) : ip sc call 111 MC MS Q 48 [some (.ref r_0), some (.int x_1), some (.int x_2), some (.int x_3), some (.int x_4), some (.int x_5), some (.int x_6), some (.int x_7), some (.int x_8), some (.int x_9)] [] h z c s := by
  refine jp_iinc (pc2 := 51) (n := 9) (v := x_9 + 1) rfl rfl rfl rfl rfl ?_
  refine ip_goto rfl ?_
  exact K
theorem b111_54 {o_0 : Option Value} {o_1 : Option Value} {o_2 : Option Value} {o_3 : Option Value} {o_4 : Option Value} {o_5 : Option Value} {o_6 : Option Value} {o_7 : Option Value} {o_8 : Option Value} {o_9 : Option Value} (q1 : Q none h z)  : ip sc call 111 MC MS Q 54 [o_0, o_1, o_2, o_3, o_4, o_5, o_6, o_7, o_8, o_9] [] h z c s := by
  exact ip_vret (st := []) rfl rfl q1
theorem b112_0 {r_0 : Nat} {fs1 : List Value} (e2 : h r_0 = some (.inr (9, fs1))) (l3 : fs1.length = 16) (q4 : Q none (hup (hup (hup (hup (hup (hup h r_0 (.inr (9, (fs1.set 6 (.int 0))))) r_0 (.inr (9, ((fs1.set 6 (.int 0)).set 7 (.int 0))))) r_0 (.inr (9, (((fs1.set 6 (.int 0)).set 7 (.int 0)).set 8 (.int 0))))) r_0 (.inr (9, ((((fs1.set 6 (.int 0)).set 7 (.int 0)).set 8 (.int 0)).set 9 (.int 0))))) r_0 (.inr (9, (((((fs1.set 6 (.int 0)).set 7 (.int 0)).set 8 (.int 0)).set 9 (.int 0)).set 10 (.int 0))))) r_0 (.inr (9, ((((((fs1.set 6 (.int 0)).set 7 (.int 0)).set 8 (.int 0)).set 9 (.int 0)).set 10 (.int 0)).set 11 (.int ((-1))))))) z)  : ip sc call 112 MC MS Q 0 [some (.ref r_0)] [] h z c s := by
  refine jp_load (pc2 := 1) (n := 0) rfl rfl rfl rfl ?_
  refine jp_con (pc2 := 2) (v := .int 0) rfl rfl rfl ?_
  refine jp_putf (pc2 := 5) rfl rfl e2 (ln_lt l3 (by decide)) ⟨rfl, rfl⟩ ?_
  refine jp_load (pc2 := 6) (n := 0) rfl rfl rfl rfl ?_
  refine jp_con (pc2 := 7) (v := .int 0) rfl rfl rfl ?_
  refine jp_putf (pc2 := 10) rfl rfl hup_eq (ls_lt (ln_lt l3 (by decide))) ⟨rfl, rfl⟩ ?_
  refine jp_load (pc2 := 11) (n := 0) rfl rfl rfl rfl ?_
  refine jp_con (pc2 := 12) (v := .int 0) rfl rfl rfl ?_
  refine jp_putf (pc2 := 15) rfl rfl hup_eq (ls_lt (ls_lt (ln_lt l3 (by decide)))) ⟨rfl, rfl⟩ ?_
  refine jp_load (pc2 := 16) (n := 0) rfl rfl rfl rfl ?_
  refine jp_con (pc2 := 17) (v := .int 0) rfl rfl rfl ?_
  refine jp_putf (pc2 := 20) rfl rfl hup_eq (ls_lt (ls_lt (ls_lt (ln_lt l3 (by decide))))) ⟨rfl, rfl⟩ ?_
  refine jp_load (pc2 := 21) (n := 0) rfl rfl rfl rfl ?_
  refine jp_con (pc2 := 22) (v := .int 0) rfl rfl rfl ?_
  refine jp_putf (pc2 := 25) rfl rfl hup_eq (ls_lt (ls_lt (ls_lt (ls_lt (ln_lt l3 (by decide)))))) ⟨rfl, rfl⟩ ?_
  refine jp_load (pc2 := 26) (n := 0) rfl rfl rfl rfl ?_
  refine jp_con (pc2 := 27) (v := .int (-1)) rfl rfl rfl ?_
  refine jp_putf (pc2 := 30) rfl rfl hup_eq (ls_lt (ls_lt (ls_lt (ls_lt (ls_lt (ln_lt l3 (by decide))))))) ⟨rfl, rfl⟩ ?_
  exact ip_vret (st := []) rfl rfl q4
theorem b113_0 {r_0 : Nat} {x_1 : Int32} {x_2 : Int32} {x_3 : Int32} {fs1 : List Value} {q_fs1_0 : Nat} {P : ipQ} (e2 : h r_0 = some (.inr (9, fs1))) (e3 : fs1[0]? = some (.ref q_fs1_0)) (m4 : c ≤ MC) (m5 : s ≤ MS) (hc : call 97 [(.ref r_0), (.int x_1), (.int x_2)] h z 0 0 P) (K : ∀ (o : Option Value) (h2 : HP) (z2 : Nat), P o h2 z2 → ip sc call 113 MC MS Q 14 [some (.ref r_0), some (.int x_1), some (.int x_2), some (.int x_3)] (o.toList ++ [(.int (x_1 + 68)), (.ref q_fs1_0)]) h2 z2 c s) : ip sc call 113 MC MS Q 0 [some (.ref r_0), some (.int x_1), some (.int x_2), some (.int x_3)] [] h z c s := by
  refine jp_load (pc2 := 1) (n := 0) rfl rfl rfl rfl ?_
  refine jp_getf (pc2 := 4) rfl rfl e2 e3 ?_
  refine jp_load (pc2 := 5) (n := 1) rfl rfl rfl rfl ?_
  refine jp_con (pc2 := 7) (v := .int 68) rfl rfl rfl ?_
  refine jp_bin (pc2 := 8) (v := x_1 + 68) rfl rfl rfl ?_
  refine jp_load (pc2 := 9) (n := 0) rfl rfl rfl rfl ?_
  refine jp_load (pc2 := 10) (n := 1) rfl rfl rfl rfl ?_
  refine jp_load (pc2 := 11) (n := 2) rfl rfl rfl rfl ?_
  exact jp_virt0 (pc2 := 14) (As := [(.int x_1), (.int x_2)]) (rest := [(.int (x_1 + 68)), (.ref q_fs1_0)]) rfl rfl rfl (Nat.le_of_ble_eq_true rfl) e2 m4 m5 hc rfl K
theorem b113_14 {o_0 : Option Value} {o_1 : Option Value} {o_2 : Option Value} {x_3 : Int32} {sr_0 : Nat} {sx_1 : Int32} {sx_2 : Int32} {n1 : Nat} {f2 : Nat → Int32} (e3 : h sr_0 = some (.inl (0, n1, .inl f2))) (b4 : vp_in ((sx_1 + sx_2) + x_3) n1) (q5 : Q (some (.int (f2 ((sx_1 + sx_2) + x_3).toNatClampNeg))) h z)  : ip sc call 113 MC MS Q 14 [o_0, o_1, o_2, some (.int x_3)] [(.int sx_2), (.int sx_1), (.ref sr_0)] h z c s := by
  refine jp_bin (pc2 := 15) (v := sx_1 + sx_2) rfl rfl rfl ?_
  refine jp_load (pc2 := 16) (n := 3) rfl rfl rfl rfl ?_
  refine jp_bin (pc2 := 17) (v := (sx_1 + sx_2) + x_3) rfl rfl rfl ?_
  refine jp_iald (pc2 := 18) rfl rfl e3 b4 ?_
  exact ip_iret (st := []) rfl rfl rfl q5
theorem b114_0 {r_0 : Nat} {x_1 : Int32} {fs1 : List Value} {P : ipQ} (e2 : h r_0 = some (.inr (9, fs1))) (m3 : c ≤ MC) (m4 : s ≤ MS) (hc : call 116 [(.ref r_0), (.int x_1)] h z 0 0 P) (K : ∀ (o : Option Value) (h2 : HP) (z2 : Nat), P o h2 z2 → ip sc call 114 MC MS Q 5 [some (.ref r_0), some (.int x_1)] (o.toList ++ []) h2 z2 c s) : ip sc call 114 MC MS Q 0 [some (.ref r_0), some (.int x_1)] [] h z c s := by
  refine jp_load (pc2 := 1) (n := 0) rfl rfl rfl rfl ?_
  refine jp_load (pc2 := 2) (n := 1) rfl rfl rfl rfl ?_
  exact jp_virt0 (pc2 := 5) (As := [(.int x_1)]) (rest := []) rfl rfl rfl (Nat.le_of_ble_eq_true rfl) e2 m3 m4 hc rfl K
theorem b114_5 {r_0 : Nat} {x_1 : Int32} {sx_0 : Int32}  (K1 : sx_0 = 0 → ip sc call 114 MC MS Q 38 [some (.ref r_0), some (.int x_1)] [] h z c s) (K2 : ¬ (sx_0 = 0) → ip sc call 114 MC MS Q 8 [some (.ref r_0), some (.int x_1)] [] h z c s) : ip sc call 114 MC MS Q 5 [some (.ref r_0), some (.int x_1)] [(.int sx_0)] h z c s := by
  exact jp_if0 (pc2 := 8) rfl rfl K1 K2
theorem b114_8 {r_0 : Nat} {x_1 : Int32} {fs1 : List Value} {v_fs1_6 : Int32} {v_fs1_7 : Int32} {v_fs1_8 : Int32} {v_fs1_9 : Int32} {v_fs1_10 : Int32} {P : ipQ} (e2 : h r_0 = some (.inr (9, fs1))) (e3 : fs1[6]? = some (.int v_fs1_6)) (e4 : fs1[7]? = some (.int v_fs1_7)) (e5 : fs1[8]? = some (.int v_fs1_8)) (e6 : fs1[9]? = some (.int v_fs1_9)) (e7 : fs1[10]? = some (.int v_fs1_10)) (m8 : c ≤ MC) (m9 : s ≤ MS) (hc : call 106 [(.ref r_0), (.int x_1), (.int v_fs1_6), (.int v_fs1_7), (.int v_fs1_8), (.int v_fs1_9), (.int v_fs1_10)] h z 0 0 P) (K : ∀ (o : Option Value) (h2 : HP) (z2 : Nat), P o h2 z2 → ip sc call 114 MC MS Q 33 [some (.ref r_0), some (.int x_1)] (o.toList ++ []) h2 z2 c s) : ip sc call 114 MC MS Q 8 [some (.ref r_0), some (.int x_1)] [] h z c s := by
  refine jp_load (pc2 := 9) (n := 0) rfl rfl rfl rfl ?_
  refine jp_load (pc2 := 10) (n := 1) rfl rfl rfl rfl ?_
  refine jp_load (pc2 := 11) (n := 0) rfl rfl rfl rfl ?_
  refine jp_getf (pc2 := 14) rfl rfl e2 e3 ?_
  refine jp_load (pc2 := 15) (n := 0) rfl rfl rfl rfl ?_
  refine jp_getf (pc2 := 18) rfl rfl e2 e4 ?_
  refine jp_load (pc2 := 19) (n := 0) rfl rfl rfl rfl ?_
  refine jp_getf (pc2 := 22) rfl rfl e2 e5 ?_
  refine jp_load (pc2 := 23) (n := 0) rfl rfl rfl rfl ?_
  refine jp_getf (pc2 := 26) rfl rfl e2 e6 ?_
  refine jp_load (pc2 := 27) (n := 0) rfl rfl rfl rfl ?_
  refine jp_getf (pc2 := 30) rfl rfl e2 e7 ?_
  exact jp_virt0 (pc2 := 33) (As := [(.int x_1), (.int v_fs1_6), (.int v_fs1_7), (.int v_fs1_8), (.int v_fs1_9), (.int v_fs1_10)]) (rest := []) rfl rfl rfl (Nat.le_of_ble_eq_true rfl) e2 m8 m9 hc rfl K
theorem b114_33 {r_0 : Nat} {x_1 : Int32} {sx_0 : Int32}  (K1 : sx_0 = 0 → ip sc call 114 MC MS Q 0 [some (.ref r_0), some (.int x_1)] [] h z c s) (K2 : ¬ (sx_0 = 0) → ip sc call 114 MC MS Q 36 [some (.ref r_0), some (.int x_1)] [] h z c s) : ip sc call 114 MC MS Q 33 [some (.ref r_0), some (.int x_1)] [(.int sx_0)] h z c s := by
  exact jp_if0 (pc2 := 36) rfl rfl K1 K2
theorem b114_36 {o_0 : Option Value} {o_1 : Option Value} (q1 : Q (some (.int 1)) h z)  : ip sc call 114 MC MS Q 36 [o_0, o_1] [] h z c s := by
  refine jp_con (pc2 := 37) (v := .int 1) rfl rfl rfl ?_
  exact ip_iret (st := []) rfl rfl rfl q1
theorem b114_38 {o_0 : Option Value} {o_1 : Option Value} (q1 : Q (some (.int 0)) h z)  : ip sc call 114 MC MS Q 38 [o_0, o_1] [] h z c s := by
  refine jp_con (pc2 := 39) (v := .int 0) rfl rfl rfl ?_
  exact ip_iret (st := []) rfl rfl rfl q1
theorem b115_0 {r_0 : Nat} {x_1 : Int32} {fs1 : List Value} {v_fs1_6 : Int32} {q_fs1_0 : Nat} {n5 : Nat} {f6 : Nat → Int32} (e2 : h r_0 = some (.inr (9, fs1))) (e3 : fs1[6]? = some (.int v_fs1_6)) (e4 : fs1[0]? = some (.ref q_fs1_0)) (e7 : h q_fs1_0 = some (.inl (0, n5, .inl f6))) (b8 : vp_in (x_1 + 1) n5) (K1 : (f6 (x_1 + 1).toNatClampNeg) ≤ v_fs1_6 → ip sc call 115 MC MS Q 101 [some (.ref r_0), some (.int x_1)] [] h z c s) (K2 : ¬ ((f6 (x_1 + 1).toNatClampNeg) ≤ v_fs1_6) → ip sc call 115 MC MS Q 15 [some (.ref r_0), some (.int x_1)] [] h z c s) : ip sc call 115 MC MS Q 0 [some (.ref r_0), some (.int x_1)] [] h z c s := by
  refine jp_load (pc2 := 1) (n := 0) rfl rfl rfl rfl ?_
  refine jp_getf (pc2 := 4) rfl rfl e2 e3 ?_
  refine jp_load (pc2 := 5) (n := 0) rfl rfl rfl rfl ?_
  refine jp_getf (pc2 := 8) rfl rfl e2 e4 ?_
  refine jp_load (pc2 := 9) (n := 1) rfl rfl rfl rfl ?_
  refine jp_con (pc2 := 10) (v := .int 1) rfl rfl rfl ?_
  refine jp_bin (pc2 := 11) (v := x_1 + 1) rfl rfl rfl ?_
  refine jp_iald (pc2 := 12) rfl rfl e7 b8 ?_
  exact jp_icmp (pc2 := 15) rfl rfl K1 K2
theorem b115_15 {r_0 : Nat} {x_1 : Int32} {fs1 : List Value} {v_fs1_7 : Int32} {q_fs1_0 : Nat} {v_fs1_6 : Int32} {n6 : Nat} {f7 : Nat → Int32} (e2 : h r_0 = some (.inr (9, fs1))) (e3 : fs1[7]? = some (.int v_fs1_7)) (e4 : fs1[0]? = some (.ref q_fs1_0)) (e5 : fs1[6]? = some (.int v_fs1_6)) (e8 : h q_fs1_0 = some (.inl (0, n6, .inl f7))) (b9 : vp_in ((x_1 + 36) + v_fs1_6) n6) (K1 : (f7 ((x_1 + 36) + v_fs1_6).toNatClampNeg) ≤ v_fs1_7 → ip sc call 115 MC MS Q 101 [some (.ref r_0), some (.int x_1)] [] h z c s) (K2 : ¬ ((f7 ((x_1 + 36) + v_fs1_6).toNatClampNeg) ≤ v_fs1_7) → ip sc call 115 MC MS Q 36 [some (.ref r_0), some (.int x_1)] [] h z c s) : ip sc call 115 MC MS Q 15 [some (.ref r_0), some (.int x_1)] [] h z c s := by
  refine jp_load (pc2 := 16) (n := 0) rfl rfl rfl rfl ?_
  refine jp_getf (pc2 := 19) rfl rfl e2 e3 ?_
  refine jp_load (pc2 := 20) (n := 0) rfl rfl rfl rfl ?_
  refine jp_getf (pc2 := 23) rfl rfl e2 e4 ?_
  refine jp_load (pc2 := 24) (n := 1) rfl rfl rfl rfl ?_
  refine jp_con (pc2 := 26) (v := .int 36) rfl rfl rfl ?_
  refine jp_bin (pc2 := 27) (v := x_1 + 36) rfl rfl rfl ?_
  refine jp_load (pc2 := 28) (n := 0) rfl rfl rfl rfl ?_
  refine jp_getf (pc2 := 31) rfl rfl e2 e5 ?_
  refine jp_bin (pc2 := 32) (v := (x_1 + 36) + v_fs1_6) rfl rfl rfl ?_
  refine jp_iald (pc2 := 33) rfl rfl e8 b9 ?_
  exact jp_icmp (pc2 := 36) rfl rfl K1 K2
theorem b115_36 {r_0 : Nat} {x_1 : Int32} {fs1 : List Value} {v_fs1_8 : Int32} {v_fs1_6 : Int32} {v_fs1_7 : Int32} {P : ipQ} (e2 : h r_0 = some (.inr (9, fs1))) (e3 : fs1[8]? = some (.int v_fs1_8)) (e4 : fs1[6]? = some (.int v_fs1_6)) (e5 : fs1[7]? = some (.int v_fs1_7)) (m6 : c ≤ MC) (m7 : s ≤ MS) (hc : call 113 [(.ref r_0), (.int x_1), (.int v_fs1_6), (.int v_fs1_7)] h z 0 0 P) (K : ∀ (o : Option Value) (h2 : HP) (z2 : Nat), P o h2 z2 → ip sc call 115 MC MS Q 53 [some (.ref r_0), some (.int x_1)] (o.toList ++ [(.int v_fs1_8)]) h2 z2 c s) : ip sc call 115 MC MS Q 36 [some (.ref r_0), some (.int x_1)] [] h z c s := by
  refine jp_load (pc2 := 37) (n := 0) rfl rfl rfl rfl ?_
  refine jp_getf (pc2 := 40) rfl rfl e2 e3 ?_
  refine jp_load (pc2 := 41) (n := 0) rfl rfl rfl rfl ?_
  refine jp_load (pc2 := 42) (n := 1) rfl rfl rfl rfl ?_
  refine jp_load (pc2 := 43) (n := 0) rfl rfl rfl rfl ?_
  refine jp_getf (pc2 := 46) rfl rfl e2 e4 ?_
  refine jp_load (pc2 := 47) (n := 0) rfl rfl rfl rfl ?_
  refine jp_getf (pc2 := 50) rfl rfl e2 e5 ?_
  exact jp_virt0 (pc2 := 53) (As := [(.int x_1), (.int v_fs1_6), (.int v_fs1_7)]) (rest := [(.int v_fs1_8)]) rfl rfl rfl (Nat.le_of_ble_eq_true rfl) e2 m6 m7 hc rfl K
theorem b115_53 {r_0 : Nat} {x_1 : Int32} {sx_0 : Int32} {sx_1 : Int32}  (K1 : sx_1 ≤ sx_0 → ip sc call 115 MC MS Q 101 [some (.ref r_0), some (.int x_1)] [] h z c s) (K2 : ¬ (sx_1 ≤ sx_0) → ip sc call 115 MC MS Q 56 [some (.ref r_0), some (.int x_1)] [] h z c s) : ip sc call 115 MC MS Q 53 [some (.ref r_0), some (.int x_1)] [(.int sx_1), (.int sx_0)] h z c s := by
  exact jp_icmp (pc2 := 56) rfl rfl K1 K2
theorem b115_56 {r_0 : Nat} {x_1 : Int32} {fs1 : List Value} {v_fs1_9 : Int32} {q_fs1_0 : Nat} {v_fs1_6 : Int32} {n6 : Nat} {f7 : Nat → Int32} (e2 : h r_0 = some (.inr (9, fs1))) (e3 : fs1[9]? = some (.int v_fs1_9)) (e4 : fs1[0]? = some (.ref q_fs1_0)) (e5 : fs1[6]? = some (.int v_fs1_6)) (e8 : h q_fs1_0 = some (.inl (0, n6, .inl f7))) (b9 : vp_in ((x_1 + 36) + v_fs1_6) n6) (K1 : (f7 ((x_1 + 36) + v_fs1_6).toNatClampNeg) ≤ v_fs1_9 → ip sc call 115 MC MS Q 101 [some (.ref r_0), some (.int x_1)] [] h z c s) (K2 : ¬ ((f7 ((x_1 + 36) + v_fs1_6).toNatClampNeg) ≤ v_fs1_9) → ip sc call 115 MC MS Q 77 [some (.ref r_0), some (.int x_1)] [] h z c s) : ip sc call 115 MC MS Q 56 [some (.ref r_0), some (.int x_1)] [] h z c s := by
  refine jp_load (pc2 := 57) (n := 0) rfl rfl rfl rfl ?_
  refine jp_getf (pc2 := 60) rfl rfl e2 e3 ?_
  refine jp_load (pc2 := 61) (n := 0) rfl rfl rfl rfl ?_
  refine jp_getf (pc2 := 64) rfl rfl e2 e4 ?_
  refine jp_load (pc2 := 65) (n := 1) rfl rfl rfl rfl ?_
  refine jp_con (pc2 := 67) (v := .int 36) rfl rfl rfl ?_
  refine jp_bin (pc2 := 68) (v := x_1 + 36) rfl rfl rfl ?_
  refine jp_load (pc2 := 69) (n := 0) rfl rfl rfl rfl ?_
  refine jp_getf (pc2 := 72) rfl rfl e2 e5 ?_
  refine jp_bin (pc2 := 73) (v := (x_1 + 36) + v_fs1_6) rfl rfl rfl ?_
  refine jp_iald (pc2 := 74) rfl rfl e8 b9 ?_
  exact jp_icmp (pc2 := 77) rfl rfl K1 K2
theorem b115_77 {r_0 : Nat} {x_1 : Int32} {fs1 : List Value} {v_fs1_10 : Int32} {v_fs1_6 : Int32} {v_fs1_9 : Int32} {P : ipQ} (e2 : h r_0 = some (.inr (9, fs1))) (e3 : fs1[10]? = some (.int v_fs1_10)) (e4 : fs1[6]? = some (.int v_fs1_6)) (e5 : fs1[9]? = some (.int v_fs1_9)) (m6 : c ≤ MC) (m7 : s ≤ MS) (hc : call 113 [(.ref r_0), (.int x_1), (.int v_fs1_6), (.int v_fs1_9)] h z 0 0 P) (K : ∀ (o : Option Value) (h2 : HP) (z2 : Nat), P o h2 z2 → ip sc call 115 MC MS Q 94 [some (.ref r_0), some (.int x_1)] (o.toList ++ [(.int v_fs1_10)]) h2 z2 c s) : ip sc call 115 MC MS Q 77 [some (.ref r_0), some (.int x_1)] [] h z c s := by
  refine jp_load (pc2 := 78) (n := 0) rfl rfl rfl rfl ?_
  refine jp_getf (pc2 := 81) rfl rfl e2 e3 ?_
  refine jp_load (pc2 := 82) (n := 0) rfl rfl rfl rfl ?_
  refine jp_load (pc2 := 83) (n := 1) rfl rfl rfl rfl ?_
  refine jp_load (pc2 := 84) (n := 0) rfl rfl rfl rfl ?_
  refine jp_getf (pc2 := 87) rfl rfl e2 e4 ?_
  refine jp_load (pc2 := 88) (n := 0) rfl rfl rfl rfl ?_
  refine jp_getf (pc2 := 91) rfl rfl e2 e5 ?_
  exact jp_virt0 (pc2 := 94) (As := [(.int x_1), (.int v_fs1_6), (.int v_fs1_9)]) (rest := [(.int v_fs1_10)]) rfl rfl rfl (Nat.le_of_ble_eq_true rfl) e2 m6 m7 hc rfl K
theorem b115_94 {o_0 : Option Value} {o_1 : Option Value} {sx_0 : Int32} {sx_1 : Int32}  (K1 : sx_1 ≤ sx_0 → ip sc call 115 MC MS Q 101 [o_0, o_1] [] h z c s) (K2 : ¬ (sx_1 ≤ sx_0) → ip sc call 115 MC MS Q 97 [o_0, o_1] [] h z c s) : ip sc call 115 MC MS Q 94 [o_0, o_1] [(.int sx_1), (.int sx_0)] h z c s := by
  exact jp_icmp (pc2 := 97) rfl rfl K1 K2
theorem b115_97 {o_0 : Option Value} {o_1 : Option Value}  (K : ip sc call 115 MC MS Q 102 [o_0, o_1] [(.int 1)] h z c s) : ip sc call 115 MC MS Q 97 [o_0, o_1] [] h z c s := by
  refine jp_con (pc2 := 98) (v := .int 1) rfl rfl rfl ?_
  refine ip_goto rfl ?_
  exact K
theorem b115_101 {o_0 : Option Value} {o_1 : Option Value}  (K : ip sc call 115 MC MS Q 102 [o_0, o_1] [(.int 0)] h z c s) : ip sc call 115 MC MS Q 101 [o_0, o_1] [] h z c s := by
  refine jp_con (pc2 := 102) (v := .int 0) rfl rfl rfl ?_
  exact K
theorem b115_102 {o_0 : Option Value} {o_1 : Option Value} {sx_0 : Int32} (t1 : narrow .boolean (.int sx_0) = .int sx_0) (q2 : Q (some (.int sx_0)) h z)  : ip sc call 115 MC MS Q 102 [o_0, o_1] [(.int sx_0)] h z c s := by
  exact ip_iret (st := []) rfl rfl t1 q2
set_option maxRecDepth 100000 in
theorem b116_0 {r_0 : Nat} {x_1 : Int32} {o_2 : Option Value} {fs1 : List Value} {P : ipQ} (e2 : h r_0 = some (.inr (9, fs1))) (m3 : c ≤ MC) (m4 : s ≤ MS) (hc : call 115 [(.ref r_0), (.int x_1)] h z 0 0 P) (K : ∀ (o : Option Value) (h2 : HP) (z2 : Nat), P o h2 z2 → ip sc call 116 MC MS Q 5 [some (.ref r_0), some (.int x_1), o_2] (o.toList ++ []) h2 z2 c s) : ip sc call 116 MC MS Q 0 [some (.ref r_0), some (.int x_1), o_2] [] h z c s := by
  refine jp_load (pc2 := 1) (n := 0) rfl rfl rfl rfl ?_
  refine jp_load (pc2 := 2) (n := 1) rfl rfl rfl rfl ?_
  exact jp_virt0 (pc2 := 5) (As := [(.int x_1)]) (rest := []) rfl rfl rfl (Nat.le_of_ble_eq_true rfl) e2 m3 m4 hc rfl K
set_option maxRecDepth 100000 in
theorem b116_5 {r_0 : Nat} {x_1 : Int32} {o_2 : Option Value} {sx_0 : Int32}  (K1 : sx_0 = 0 → ip sc call 116 MC MS Q 99 [some (.ref r_0), some (.int x_1), o_2] [] h z c s) (K2 : ¬ (sx_0 = 0) → ip sc call 116 MC MS Q 8 [some (.ref r_0), some (.int x_1), o_2] [] h z c s) : ip sc call 116 MC MS Q 5 [some (.ref r_0), some (.int x_1), o_2] [(.int sx_0)] h z c s := by
  exact jp_if0 (pc2 := 8) rfl rfl K1 K2
set_option maxRecDepth 100000 in
theorem b116_8 {r_0 : Nat} {x_1 : Int32} {o_2 : Option Value} {fs1 : List Value} {v_fs1_7 : Int32} {v_fs1_9 : Int32} (e2 : h r_0 = some (.inr (9, fs1))) (e3 : fs1[7]? = some (.int v_fs1_7)) (e4 : fs1[9]? = some (.int v_fs1_9)) (K1 : ¬ v_fs1_7 = v_fs1_9 → ip sc call 116 MC MS Q 40 [some (.ref r_0), some (.int x_1), o_2] [] h z c s) (K2 : ¬ (¬ v_fs1_7 = v_fs1_9) → ip sc call 116 MC MS Q 19 [some (.ref r_0), some (.int x_1), o_2] [] h z c s) : ip sc call 116 MC MS Q 8 [some (.ref r_0), some (.int x_1), o_2] [] h z c s := by
  refine jp_load (pc2 := 9) (n := 0) rfl rfl rfl rfl ?_
  refine jp_getf (pc2 := 12) rfl rfl e2 e3 ?_
  refine jp_load (pc2 := 13) (n := 0) rfl rfl rfl rfl ?_
  refine jp_getf (pc2 := 16) rfl rfl e2 e4 ?_
  exact jp_icmp (pc2 := 19) rfl rfl K1 K2
set_option maxRecDepth 100000 in
theorem b116_19 {r_0 : Nat} {x_1 : Int32} {o_2 : Option Value} {fs1 : List Value} {q_fs1_0 : Nat} {v_fs1_6 : Int32} {n5 : Nat} {f6 : Nat → Int32} (e2 : h r_0 = some (.inr (9, fs1))) (e3 : fs1[0]? = some (.ref q_fs1_0)) (e4 : fs1[6]? = some (.int v_fs1_6)) (e7 : h q_fs1_0 = some (.inl (0, n5, .inl f6))) (b8 : vp_in ((x_1 + 36) + v_fs1_6) n5) (K : ip sc call 116 MC MS Q 41 [some (.ref r_0), some (.int x_1), o_2] [(.int (1 <<< (((f6 ((x_1 + 36) + v_fs1_6).toNatClampNeg) - 1) &&& 31)))] h z c s) : ip sc call 116 MC MS Q 19 [some (.ref r_0), some (.int x_1), o_2] [] h z c s := by
  refine jp_con (pc2 := 20) (v := .int 1) rfl rfl rfl ?_
  refine jp_load (pc2 := 21) (n := 0) rfl rfl rfl rfl ?_
  refine jp_getf (pc2 := 24) rfl rfl e2 e3 ?_
  refine jp_load (pc2 := 25) (n := 1) rfl rfl rfl rfl ?_
  refine jp_con (pc2 := 27) (v := .int 36) rfl rfl rfl ?_
  refine jp_bin (pc2 := 28) (v := x_1 + 36) rfl rfl rfl ?_
  refine jp_load (pc2 := 29) (n := 0) rfl rfl rfl rfl ?_
  refine jp_getf (pc2 := 32) rfl rfl e2 e4 ?_
  refine jp_bin (pc2 := 33) (v := (x_1 + 36) + v_fs1_6) rfl rfl rfl ?_
  refine jp_iald (pc2 := 34) rfl rfl e7 b8 ?_
  refine jp_con (pc2 := 35) (v := .int 1) rfl rfl rfl ?_
  refine jp_bin (pc2 := 36) (v := (f6 ((x_1 + 36) + v_fs1_6).toNatClampNeg) - 1) rfl rfl rfl ?_
  refine jp_bin (pc2 := 37) (v := 1 <<< (((f6 ((x_1 + 36) + v_fs1_6).toNatClampNeg) - 1) &&& 31)) rfl rfl rfl ?_
  refine ip_goto rfl ?_
  exact K
set_option maxRecDepth 100000 in
theorem b116_40 {r_0 : Nat} {x_1 : Int32} {o_2 : Option Value}  (K : ip sc call 116 MC MS Q 41 [some (.ref r_0), some (.int x_1), o_2] [(.int 1)] h z c s) : ip sc call 116 MC MS Q 40 [some (.ref r_0), some (.int x_1), o_2] [] h z c s := by
  refine jp_con (pc2 := 41) (v := .int 1) rfl rfl rfl ?_
  exact K
set_option maxRecDepth 100000 in
theorem b116_41 {r_0 : Nat} {x_1 : Int32} {o_2 : Option Value} {sx_0 : Int32} {fs1 : List Value} {v_fs1_11 : Int32} (e2 : h r_0 = some (.inr (9, fs1))) (e3 : fs1[11]? = some (.int v_fs1_11)) (K1 : v_fs1_11 < 0 → ip sc call 116 MC MS Q 87 [some (.ref r_0), some (.int x_1), some (.int sx_0)] [] h z c s) (K2 : ¬ (v_fs1_11 < 0) → ip sc call 116 MC MS Q 49 [some (.ref r_0), some (.int x_1), some (.int sx_0)] [] h z c s) : ip sc call 116 MC MS Q 41 [some (.ref r_0), some (.int x_1), o_2] [(.int sx_0)] h z c s := by
  refine jp_store (pc2 := 42) (n := 2) rfl rfl ⟨rfl, rfl⟩ rfl (Nat.le_of_ble_eq_true rfl) ?_
  refine jp_load (pc2 := 43) (n := 0) rfl rfl rfl rfl ?_
  refine jp_getf (pc2 := 46) rfl rfl e2 e3 ?_
  exact jp_if0 (pc2 := 49) rfl rfl K1 K2
set_option maxRecDepth 100000 in
theorem b116_49 {r_0 : Nat} {x_1 : Int32} {x_2 : Int32} {fs1 : List Value} {v_fs1_11 : Int32} (e2 : h r_0 = some (.inr (9, fs1))) (e3 : fs1[11]? = some (.int v_fs1_11)) (K1 : x_2 ≤ (v_fs1_11 + 1) → ip sc call 116 MC MS Q 99 [some (.ref r_0), some (.int x_1), some (.int x_2)] [] h z c s) (K2 : ¬ (x_2 ≤ (v_fs1_11 + 1)) → ip sc call 116 MC MS Q 59 [some (.ref r_0), some (.int x_1), some (.int x_2)] [] h z c s) : ip sc call 116 MC MS Q 49 [some (.ref r_0), some (.int x_1), some (.int x_2)] [] h z c s := by
  refine jp_load (pc2 := 50) (n := 0) rfl rfl rfl rfl ?_
  refine jp_getf (pc2 := 53) rfl rfl e2 e3 ?_
  refine jp_con (pc2 := 54) (v := .int 1) rfl rfl rfl ?_
  refine jp_bin (pc2 := 55) (v := v_fs1_11 + 1) rfl rfl rfl ?_
  refine jp_load (pc2 := 56) (n := 2) rfl rfl rfl rfl ?_
  exact jp_icmp (pc2 := 59) rfl rfl K1 K2
set_option maxRecDepth 100000 in
theorem b116_59 {r_0 : Nat} {x_1 : Int32} {o_2 : Option Value} {fs1 : List Value} {v_fs1_6 : Int32} {v_fs1_7 : Int32} {v_fs1_8 : Int32} {v_fs1_9 : Int32} {v_fs1_10 : Int32} {P : ipQ} (e2 : h r_0 = some (.inr (9, fs1))) (e3 : fs1[6]? = some (.int v_fs1_6)) (e4 : fs1[7]? = some (.int v_fs1_7)) (e5 : fs1[8]? = some (.int v_fs1_8)) (e6 : fs1[9]? = some (.int v_fs1_9)) (e7 : fs1[10]? = some (.int v_fs1_10)) (m8 : c ≤ MC) (m9 : s ≤ MS) (hc : call 106 [(.ref r_0), (.int x_1), (.int v_fs1_6), (.int v_fs1_7), (.int v_fs1_8), (.int v_fs1_9), (.int v_fs1_10)] h z 0 0 P) (K : ∀ (o : Option Value) (h2 : HP) (z2 : Nat), P o h2 z2 → ip sc call 116 MC MS Q 84 [some (.ref r_0), some (.int x_1), o_2] (o.toList ++ []) h2 z2 c s) : ip sc call 116 MC MS Q 59 [some (.ref r_0), some (.int x_1), o_2] [] h z c s := by
  refine jp_load (pc2 := 60) (n := 0) rfl rfl rfl rfl ?_
  refine jp_load (pc2 := 61) (n := 1) rfl rfl rfl rfl ?_
  refine jp_load (pc2 := 62) (n := 0) rfl rfl rfl rfl ?_
  refine jp_getf (pc2 := 65) rfl rfl e2 e3 ?_
  refine jp_load (pc2 := 66) (n := 0) rfl rfl rfl rfl ?_
  refine jp_getf (pc2 := 69) rfl rfl e2 e4 ?_
  refine jp_load (pc2 := 70) (n := 0) rfl rfl rfl rfl ?_
  refine jp_getf (pc2 := 73) rfl rfl e2 e5 ?_
  refine jp_load (pc2 := 74) (n := 0) rfl rfl rfl rfl ?_
  refine jp_getf (pc2 := 77) rfl rfl e2 e6 ?_
  refine jp_load (pc2 := 78) (n := 0) rfl rfl rfl rfl ?_
  refine jp_getf (pc2 := 81) rfl rfl e2 e7 ?_
  exact jp_virt0 (pc2 := 84) (As := [(.int x_1), (.int v_fs1_6), (.int v_fs1_7), (.int v_fs1_8), (.int v_fs1_9), (.int v_fs1_10)]) (rest := []) rfl rfl rfl (Nat.le_of_ble_eq_true rfl) e2 m8 m9 hc rfl K
set_option maxRecDepth 100000 in
theorem b116_84 {r_0 : Nat} {x_1 : Int32} {o_2 : Option Value} {sx_0 : Int32}  (K1 : sx_0 = 0 → ip sc call 116 MC MS Q 99 [some (.ref r_0), some (.int x_1), o_2] [] h z c s) (K2 : ¬ (sx_0 = 0) → ip sc call 116 MC MS Q 87 [some (.ref r_0), some (.int x_1), o_2] [] h z c s) : ip sc call 116 MC MS Q 84 [some (.ref r_0), some (.int x_1), o_2] [(.int sx_0)] h z c s := by
  exact jp_if0 (pc2 := 87) rfl rfl K1 K2
set_option maxRecDepth 100000 in
theorem b116_87 {r_0 : Nat} {o_1 : Option Value} {o_2 : Option Value} {fs1 : List Value} {v_fs1_11 : Int32} (e2 : h r_0 = some (.inr (9, fs1))) (e3 : fs1[11]? = some (.int v_fs1_11)) (l4 : fs1.length = 16) (q5 : Q (some (.int 1)) (hup h r_0 (.inr (9, (fs1.set 11 (.int (v_fs1_11 + 1)))))) z)  : ip sc call 116 MC MS Q 87 [some (.ref r_0), o_1, o_2] [] h z c s := by
  refine jp_load (pc2 := 88) (n := 0) rfl rfl rfl rfl ?_
  refine jp_dup (pc2 := 89) rfl rfl rfl ?_
  refine jp_getf (pc2 := 92) rfl rfl e2 e3 ?_
  refine jp_con (pc2 := 93) (v := .int 1) rfl rfl rfl ?_
  refine jp_bin (pc2 := 94) (v := v_fs1_11 + 1) rfl rfl rfl ?_
  refine jp_putf (pc2 := 97) rfl rfl e2 (ln_lt l4 (by decide)) ⟨rfl, rfl⟩ ?_
  refine jp_con (pc2 := 98) (v := .int 1) rfl rfl rfl ?_
  exact ip_iret (st := []) rfl rfl rfl q5
set_option maxRecDepth 100000 in
theorem b116_99 {r_0 : Nat} {x_1 : Int32} {o_2 : Option Value} {fs1 : List Value} {v_fs1_10 : Int32} (e2 : h r_0 = some (.inr (9, fs1))) (l3 : fs1.length = 16) (e4 : fs1[10]? = some (.int v_fs1_10)) (K : ip sc call 116 MC MS Q 114 [some (.ref r_0), some (.int x_1), o_2] [] (hup (hup h r_0 (.inr (9, (fs1.set 11 (.int 0))))) r_0 (.inr (9, ((fs1.set 11 (.int 0)).set 10 (.int (v_fs1_10 + 1)))))) z c s) : ip sc call 116 MC MS Q 99 [some (.ref r_0), some (.int x_1), o_2] [] h z c s := by
  refine jp_load (pc2 := 100) (n := 0) rfl rfl rfl rfl ?_
  refine jp_con (pc2 := 101) (v := .int 0) rfl rfl rfl ?_
  refine jp_putf (pc2 := 104) rfl rfl e2 (ln_lt l3 (by decide)) ⟨rfl, rfl⟩ ?_
  refine jp_load (pc2 := 105) (n := 0) rfl rfl rfl rfl ?_
  refine jp_dup (pc2 := 106) rfl rfl rfl ?_
  refine jp_getf (pc2 := 109) rfl rfl hup_eq (gs_ne (by decide) e4) ?_
  refine jp_con (pc2 := 110) (v := .int 1) rfl rfl rfl ?_
  refine jp_bin (pc2 := 111) (v := v_fs1_10 + 1) rfl rfl rfl ?_
  refine jp_putf (pc2 := 114) rfl rfl hup_eq (ls_lt (ln_lt l3 (by decide))) ⟨rfl, rfl⟩ ?_
  exact K
set_option maxRecDepth 100000 in
theorem b116_114 {r_0 : Nat} {x_1 : Int32} {o_2 : Option Value} {fs1 : List Value} {v_fs1_6 : Int32} {q_fs1_0 : Nat} {n5 : Nat} {f6 : Nat → Int32} (e2 : h r_0 = some (.inr (9, fs1))) (e3 : fs1[6]? = some (.int v_fs1_6)) (e4 : fs1[0]? = some (.ref q_fs1_0)) (e7 : h q_fs1_0 = some (.inl (0, n5, .inl f6))) (b8 : vp_in (x_1 + 1) n5) (K1 : (f6 (x_1 + 1).toNatClampNeg) ≤ v_fs1_6 → ip sc call 116 MC MS Q 374 [some (.ref r_0), some (.int x_1), o_2] [] h z c s) (K2 : ¬ ((f6 (x_1 + 1).toNatClampNeg) ≤ v_fs1_6) → ip sc call 116 MC MS Q 129 [some (.ref r_0), some (.int x_1), o_2] [] h z c s) : ip sc call 116 MC MS Q 114 [some (.ref r_0), some (.int x_1), o_2] [] h z c s := by
  refine jp_load (pc2 := 115) (n := 0) rfl rfl rfl rfl ?_
  refine jp_getf (pc2 := 118) rfl rfl e2 e3 ?_
  refine jp_load (pc2 := 119) (n := 0) rfl rfl rfl rfl ?_
  refine jp_getf (pc2 := 122) rfl rfl e2 e4 ?_
  refine jp_load (pc2 := 123) (n := 1) rfl rfl rfl rfl ?_
  refine jp_con (pc2 := 124) (v := .int 1) rfl rfl rfl ?_
  refine jp_bin (pc2 := 125) (v := x_1 + 1) rfl rfl rfl ?_
  refine jp_iald (pc2 := 126) rfl rfl e7 b8 ?_
  exact jp_icmp (pc2 := 129) rfl rfl K1 K2
set_option maxRecDepth 100000 in
theorem b116_129 {r_0 : Nat} {x_1 : Int32} {o_2 : Option Value} {fs1 : List Value} {P : ipQ} (e2 : h r_0 = some (.inr (9, fs1))) (m3 : c ≤ MC) (m4 : s ≤ MS) (hc : call 115 [(.ref r_0), (.int x_1)] h z 0 0 P) (K : ∀ (o : Option Value) (h2 : HP) (z2 : Nat), P o h2 z2 → ip sc call 116 MC MS Q 134 [some (.ref r_0), some (.int x_1), o_2] (o.toList ++ []) h2 z2 c s) : ip sc call 116 MC MS Q 129 [some (.ref r_0), some (.int x_1), o_2] [] h z c s := by
  refine jp_load (pc2 := 130) (n := 0) rfl rfl rfl rfl ?_
  refine jp_load (pc2 := 131) (n := 1) rfl rfl rfl rfl ?_
  exact jp_virt0 (pc2 := 134) (As := [(.int x_1)]) (rest := []) rfl rfl rfl (Nat.le_of_ble_eq_true rfl) e2 m3 m4 hc rfl K
set_option maxRecDepth 100000 in
theorem b116_134 {r_0 : Nat} {x_1 : Int32} {o_2 : Option Value} {sx_0 : Int32}  (K1 : sx_0 = 0 → ip sc call 116 MC MS Q 139 [some (.ref r_0), some (.int x_1), o_2] [] h z c s) (K2 : ¬ (sx_0 = 0) → ip sc call 116 MC MS Q 137 [some (.ref r_0), some (.int x_1), o_2] [] h z c s) : ip sc call 116 MC MS Q 134 [some (.ref r_0), some (.int x_1), o_2] [(.int sx_0)] h z c s := by
  exact jp_if0 (pc2 := 137) rfl rfl K1 K2
set_option maxRecDepth 100000 in
theorem b116_137 {o_0 : Option Value} {o_1 : Option Value} {o_2 : Option Value} (q1 : Q (some (.int 1)) h z)  : ip sc call 116 MC MS Q 137 [o_0, o_1, o_2] [] h z c s := by
  refine jp_con (pc2 := 138) (v := .int 1) rfl rfl rfl ?_
  exact ip_iret (st := []) rfl rfl rfl q1
set_option maxRecDepth 100000 in
theorem b116_139 {r_0 : Nat} {x_1 : Int32} {o_2 : Option Value} {fs1 : List Value} {v_fs1_7 : Int32} {q_fs1_0 : Nat} {v_fs1_6 : Int32} {n6 : Nat} {f7 : Nat → Int32} (e2 : h r_0 = some (.inr (9, fs1))) (e3 : fs1[7]? = some (.int v_fs1_7)) (e4 : fs1[0]? = some (.ref q_fs1_0)) (e5 : fs1[6]? = some (.int v_fs1_6)) (e8 : h q_fs1_0 = some (.inl (0, n6, .inl f7))) (b9 : vp_in ((x_1 + 36) + v_fs1_6) n6) (K1 : (f7 ((x_1 + 36) + v_fs1_6).toNatClampNeg) ≤ v_fs1_7 → ip sc call 116 MC MS Q 219 [some (.ref r_0), some (.int x_1), o_2] [] h z c s) (K2 : ¬ ((f7 ((x_1 + 36) + v_fs1_6).toNatClampNeg) ≤ v_fs1_7) → ip sc call 116 MC MS Q 160 [some (.ref r_0), some (.int x_1), o_2] [] h z c s) : ip sc call 116 MC MS Q 139 [some (.ref r_0), some (.int x_1), o_2] [] h z c s := by
  refine jp_load (pc2 := 140) (n := 0) rfl rfl rfl rfl ?_
  refine jp_getf (pc2 := 143) rfl rfl e2 e3 ?_
  refine jp_load (pc2 := 144) (n := 0) rfl rfl rfl rfl ?_
  refine jp_getf (pc2 := 147) rfl rfl e2 e4 ?_
  refine jp_load (pc2 := 148) (n := 1) rfl rfl rfl rfl ?_
  refine jp_con (pc2 := 150) (v := .int 36) rfl rfl rfl ?_
  refine jp_bin (pc2 := 151) (v := x_1 + 36) rfl rfl rfl ?_
  refine jp_load (pc2 := 152) (n := 0) rfl rfl rfl rfl ?_
  refine jp_getf (pc2 := 155) rfl rfl e2 e5 ?_
  refine jp_bin (pc2 := 156) (v := (x_1 + 36) + v_fs1_6) rfl rfl rfl ?_
  refine jp_iald (pc2 := 157) rfl rfl e8 b9 ?_
  exact jp_icmp (pc2 := 160) rfl rfl K1 K2
set_option maxRecDepth 100000 in
theorem b116_160 {r_0 : Nat} {x_1 : Int32} {o_2 : Option Value} {fs1 : List Value} {v_fs1_8 : Int32} {v_fs1_6 : Int32} {v_fs1_7 : Int32} {P : ipQ} (e2 : h r_0 = some (.inr (9, fs1))) (e3 : fs1[8]? = some (.int v_fs1_8)) (e4 : fs1[6]? = some (.int v_fs1_6)) (e5 : fs1[7]? = some (.int v_fs1_7)) (m6 : c ≤ MC) (m7 : s ≤ MS) (hc : call 113 [(.ref r_0), (.int x_1), (.int v_fs1_6), (.int v_fs1_7)] h z 0 0 P) (K : ∀ (o : Option Value) (h2 : HP) (z2 : Nat), P o h2 z2 → ip sc call 116 MC MS Q 177 [some (.ref r_0), some (.int x_1), o_2] (o.toList ++ [(.int v_fs1_8)]) h2 z2 c s) : ip sc call 116 MC MS Q 160 [some (.ref r_0), some (.int x_1), o_2] [] h z c s := by
  refine jp_load (pc2 := 161) (n := 0) rfl rfl rfl rfl ?_
  refine jp_getf (pc2 := 164) rfl rfl e2 e3 ?_
  refine jp_load (pc2 := 165) (n := 0) rfl rfl rfl rfl ?_
  refine jp_load (pc2 := 166) (n := 1) rfl rfl rfl rfl ?_
  refine jp_load (pc2 := 167) (n := 0) rfl rfl rfl rfl ?_
  refine jp_getf (pc2 := 170) rfl rfl e2 e4 ?_
  refine jp_load (pc2 := 171) (n := 0) rfl rfl rfl rfl ?_
  refine jp_getf (pc2 := 174) rfl rfl e2 e5 ?_
  exact jp_virt0 (pc2 := 177) (As := [(.int x_1), (.int v_fs1_6), (.int v_fs1_7)]) (rest := [(.int v_fs1_8)]) rfl rfl rfl (Nat.le_of_ble_eq_true rfl) e2 m6 m7 hc rfl K
set_option maxRecDepth 100000 in
theorem b116_177 {r_0 : Nat} {x_1 : Int32} {o_2 : Option Value} {sx_0 : Int32} {sx_1 : Int32}  (K1 : sx_1 ≤ sx_0 → ip sc call 116 MC MS Q 219 [some (.ref r_0), some (.int x_1), o_2] [] h z c s) (K2 : ¬ (sx_1 ≤ sx_0) → ip sc call 116 MC MS Q 180 [some (.ref r_0), some (.int x_1), o_2] [] h z c s) : ip sc call 116 MC MS Q 177 [some (.ref r_0), some (.int x_1), o_2] [(.int sx_1), (.int sx_0)] h z c s := by
  exact jp_icmp (pc2 := 180) rfl rfl K1 K2
set_option maxRecDepth 100000 in
theorem b116_180 {r_0 : Nat} {x_1 : Int32} {o_2 : Option Value} {fs1 : List Value} {v_fs1_9 : Int32} {q_fs1_0 : Nat} {v_fs1_6 : Int32} {n6 : Nat} {f7 : Nat → Int32} (e2 : h r_0 = some (.inr (9, fs1))) (e3 : fs1[9]? = some (.int v_fs1_9)) (e4 : fs1[0]? = some (.ref q_fs1_0)) (e5 : fs1[6]? = some (.int v_fs1_6)) (e8 : h q_fs1_0 = some (.inl (0, n6, .inl f7))) (b9 : vp_in ((x_1 + 36) + v_fs1_6) n6) (K1 : (f7 ((x_1 + 36) + v_fs1_6).toNatClampNeg) ≤ v_fs1_9 → ip sc call 116 MC MS Q 219 [some (.ref r_0), some (.int x_1), o_2] [] h z c s) (K2 : ¬ ((f7 ((x_1 + 36) + v_fs1_6).toNatClampNeg) ≤ v_fs1_9) → ip sc call 116 MC MS Q 201 [some (.ref r_0), some (.int x_1), o_2] [] h z c s) : ip sc call 116 MC MS Q 180 [some (.ref r_0), some (.int x_1), o_2] [] h z c s := by
  refine jp_load (pc2 := 181) (n := 0) rfl rfl rfl rfl ?_
  refine jp_getf (pc2 := 184) rfl rfl e2 e3 ?_
  refine jp_load (pc2 := 185) (n := 0) rfl rfl rfl rfl ?_
  refine jp_getf (pc2 := 188) rfl rfl e2 e4 ?_
  refine jp_load (pc2 := 189) (n := 1) rfl rfl rfl rfl ?_
  refine jp_con (pc2 := 191) (v := .int 36) rfl rfl rfl ?_
  refine jp_bin (pc2 := 192) (v := x_1 + 36) rfl rfl rfl ?_
  refine jp_load (pc2 := 193) (n := 0) rfl rfl rfl rfl ?_
  refine jp_getf (pc2 := 196) rfl rfl e2 e5 ?_
  refine jp_bin (pc2 := 197) (v := (x_1 + 36) + v_fs1_6) rfl rfl rfl ?_
  refine jp_iald (pc2 := 198) rfl rfl e8 b9 ?_
  exact jp_icmp (pc2 := 201) rfl rfl K1 K2
set_option maxRecDepth 100000 in
theorem b116_201 {r_0 : Nat} {x_1 : Int32} {o_2 : Option Value} {fs1 : List Value} {v_fs1_9 : Int32} (e2 : h r_0 = some (.inr (9, fs1))) (e3 : fs1[9]? = some (.int v_fs1_9)) (l4 : fs1.length = 16) (K : ip sc call 116 MC MS Q 114 [some (.ref r_0), some (.int x_1), o_2] [] (hup (hup h r_0 (.inr (9, (fs1.set 9 (.int (v_fs1_9 + 1)))))) r_0 (.inr (9, ((fs1.set 9 (.int (v_fs1_9 + 1))).set 10 (.int 0))))) z c s) : ip sc call 116 MC MS Q 201 [some (.ref r_0), some (.int x_1), o_2] [] h z c s := by
  refine jp_load (pc2 := 202) (n := 0) rfl rfl rfl rfl ?_
  refine jp_dup (pc2 := 203) rfl rfl rfl ?_
  refine jp_getf (pc2 := 206) rfl rfl e2 e3 ?_
  refine jp_con (pc2 := 207) (v := .int 1) rfl rfl rfl ?_
  refine jp_bin (pc2 := 208) (v := v_fs1_9 + 1) rfl rfl rfl ?_
  refine jp_putf (pc2 := 211) rfl rfl e2 (ln_lt l4 (by decide)) ⟨rfl, rfl⟩ ?_
  refine jp_load (pc2 := 212) (n := 0) rfl rfl rfl rfl ?_
  refine jp_con (pc2 := 213) (v := .int 0) rfl rfl rfl ?_
  refine jp_putf (pc2 := 216) rfl rfl hup_eq (ls_lt (ln_lt l4 (by decide))) ⟨rfl, rfl⟩ ?_
  refine ip_goto rfl ?_
  exact K
set_option maxRecDepth 100000 in
theorem b116_219 {r_0 : Nat} {x_1 : Int32} {o_2 : Option Value} {fs1 : List Value} {v_fs1_7 : Int32} {q_fs1_0 : Nat} {v_fs1_6 : Int32} {n6 : Nat} {f7 : Nat → Int32} (e2 : h r_0 = some (.inr (9, fs1))) (e3 : fs1[7]? = some (.int v_fs1_7)) (e4 : fs1[0]? = some (.ref q_fs1_0)) (e5 : fs1[6]? = some (.int v_fs1_6)) (e8 : h q_fs1_0 = some (.inl (0, n6, .inl f7))) (b9 : vp_in ((x_1 + 36) + v_fs1_6) n6) (K1 : (f7 ((x_1 + 36) + v_fs1_6).toNatClampNeg) ≤ v_fs1_7 → ip sc call 116 MC MS Q 289 [some (.ref r_0), some (.int x_1), o_2] [] h z c s) (K2 : ¬ ((f7 ((x_1 + 36) + v_fs1_6).toNatClampNeg) ≤ v_fs1_7) → ip sc call 116 MC MS Q 240 [some (.ref r_0), some (.int x_1), o_2] [] h z c s) : ip sc call 116 MC MS Q 219 [some (.ref r_0), some (.int x_1), o_2] [] h z c s := by
  refine jp_load (pc2 := 220) (n := 0) rfl rfl rfl rfl ?_
  refine jp_getf (pc2 := 223) rfl rfl e2 e3 ?_
  refine jp_load (pc2 := 224) (n := 0) rfl rfl rfl rfl ?_
  refine jp_getf (pc2 := 227) rfl rfl e2 e4 ?_
  refine jp_load (pc2 := 228) (n := 1) rfl rfl rfl rfl ?_
  refine jp_con (pc2 := 230) (v := .int 36) rfl rfl rfl ?_
  refine jp_bin (pc2 := 231) (v := x_1 + 36) rfl rfl rfl ?_
  refine jp_load (pc2 := 232) (n := 0) rfl rfl rfl rfl ?_
  refine jp_getf (pc2 := 235) rfl rfl e2 e5 ?_
  refine jp_bin (pc2 := 236) (v := (x_1 + 36) + v_fs1_6) rfl rfl rfl ?_
  refine jp_iald (pc2 := 237) rfl rfl e8 b9 ?_
  exact jp_icmp (pc2 := 240) rfl rfl K1 K2
set_option maxRecDepth 100000 in
theorem b116_240 {r_0 : Nat} {x_1 : Int32} {o_2 : Option Value} {fs1 : List Value} {v_fs1_8 : Int32} {v_fs1_6 : Int32} {v_fs1_7 : Int32} {P : ipQ} (e2 : h r_0 = some (.inr (9, fs1))) (e3 : fs1[8]? = some (.int v_fs1_8)) (e4 : fs1[6]? = some (.int v_fs1_6)) (e5 : fs1[7]? = some (.int v_fs1_7)) (m6 : c ≤ MC) (m7 : s ≤ MS) (hc : call 113 [(.ref r_0), (.int x_1), (.int v_fs1_6), (.int v_fs1_7)] h z 0 0 P) (K : ∀ (o : Option Value) (h2 : HP) (z2 : Nat), P o h2 z2 → ip sc call 116 MC MS Q 257 [some (.ref r_0), some (.int x_1), o_2] (o.toList ++ [(.int v_fs1_8)]) h2 z2 c s) : ip sc call 116 MC MS Q 240 [some (.ref r_0), some (.int x_1), o_2] [] h z c s := by
  refine jp_load (pc2 := 241) (n := 0) rfl rfl rfl rfl ?_
  refine jp_getf (pc2 := 244) rfl rfl e2 e3 ?_
  refine jp_load (pc2 := 245) (n := 0) rfl rfl rfl rfl ?_
  refine jp_load (pc2 := 246) (n := 1) rfl rfl rfl rfl ?_
  refine jp_load (pc2 := 247) (n := 0) rfl rfl rfl rfl ?_
  refine jp_getf (pc2 := 250) rfl rfl e2 e4 ?_
  refine jp_load (pc2 := 251) (n := 0) rfl rfl rfl rfl ?_
  refine jp_getf (pc2 := 254) rfl rfl e2 e5 ?_
  exact jp_virt0 (pc2 := 257) (As := [(.int x_1), (.int v_fs1_6), (.int v_fs1_7)]) (rest := [(.int v_fs1_8)]) rfl rfl rfl (Nat.le_of_ble_eq_true rfl) e2 m6 m7 hc rfl K
set_option maxRecDepth 100000 in
theorem b116_257 {r_0 : Nat} {x_1 : Int32} {o_2 : Option Value} {sx_0 : Int32} {sx_1 : Int32}  (K1 : sx_1 ≤ sx_0 → ip sc call 116 MC MS Q 289 [some (.ref r_0), some (.int x_1), o_2] [] h z c s) (K2 : ¬ (sx_1 ≤ sx_0) → ip sc call 116 MC MS Q 260 [some (.ref r_0), some (.int x_1), o_2] [] h z c s) : ip sc call 116 MC MS Q 257 [some (.ref r_0), some (.int x_1), o_2] [(.int sx_1), (.int sx_0)] h z c s := by
  exact jp_icmp (pc2 := 260) rfl rfl K1 K2
set_option maxRecDepth 100000 in
theorem b116_260 {r_0 : Nat} {x_1 : Int32} {o_2 : Option Value} {fs1 : List Value} {v_fs1_8 : Int32} {v_fs1_7 : Int32} (e2 : h r_0 = some (.inr (9, fs1))) (e3 : fs1[8]? = some (.int v_fs1_8)) (l4 : fs1.length = 16) (e5 : fs1[7]? = some (.int v_fs1_7)) (K : ip sc call 116 MC MS Q 114 [some (.ref r_0), some (.int x_1), o_2] [] (hup (hup (hup h r_0 (.inr (9, (fs1.set 8 (.int (v_fs1_8 + 1)))))) r_0 (.inr (9, ((fs1.set 8 (.int (v_fs1_8 + 1))).set 9 (.int v_fs1_7))))) r_0 (.inr (9, (((fs1.set 8 (.int (v_fs1_8 + 1))).set 9 (.int v_fs1_7)).set 10 (.int (v_fs1_8 + 1)))))) z c s) : ip sc call 116 MC MS Q 260 [some (.ref r_0), some (.int x_1), o_2] [] h z c s := by
  refine jp_load (pc2 := 261) (n := 0) rfl rfl rfl rfl ?_
  refine jp_dup (pc2 := 262) rfl rfl rfl ?_
  refine jp_getf (pc2 := 265) rfl rfl e2 e3 ?_
  refine jp_con (pc2 := 266) (v := .int 1) rfl rfl rfl ?_
  refine jp_bin (pc2 := 267) (v := v_fs1_8 + 1) rfl rfl rfl ?_
  refine jp_putf (pc2 := 270) rfl rfl e2 (ln_lt l4 (by decide)) ⟨rfl, rfl⟩ ?_
  refine jp_load (pc2 := 271) (n := 0) rfl rfl rfl rfl ?_
  refine jp_load (pc2 := 272) (n := 0) rfl rfl rfl rfl ?_
  refine jp_getf (pc2 := 275) rfl rfl hup_eq (gs_ne (by decide) e5) ?_
  refine jp_putf (pc2 := 278) rfl rfl hup_eq (ls_lt (ln_lt l4 (by decide))) ⟨rfl, rfl⟩ ?_
  refine jp_load (pc2 := 279) (n := 0) rfl rfl rfl rfl ?_
  refine jp_load (pc2 := 280) (n := 0) rfl rfl rfl rfl ?_
  refine jp_getf (pc2 := 283) rfl rfl hup_eq (gs_ne (by decide) (gs_eq (ln_lt l4 (by decide)))) ?_
  refine jp_putf (pc2 := 286) rfl rfl hup_eq (ls_lt (ls_lt (ln_lt l4 (by decide)))) ⟨rfl, rfl⟩ ?_
  refine ip_goto rfl ?_
  exact K
set_option maxRecDepth 100000 in
theorem b116_289 {r_0 : Nat} {x_1 : Int32} {o_2 : Option Value} {fs1 : List Value} {v_fs1_7 : Int32} {q_fs1_0 : Nat} {v_fs1_6 : Int32} {n6 : Nat} {f7 : Nat → Int32} (e2 : h r_0 = some (.inr (9, fs1))) (e3 : fs1[7]? = some (.int v_fs1_7)) (e4 : fs1[0]? = some (.ref q_fs1_0)) (e5 : fs1[6]? = some (.int v_fs1_6)) (e8 : h q_fs1_0 = some (.inl (0, n6, .inl f7))) (b9 : vp_in ((x_1 + 36) + v_fs1_6) n6) (K1 : (f7 ((x_1 + 36) + v_fs1_6).toNatClampNeg) ≤ v_fs1_7 → ip sc call 116 MC MS Q 341 [some (.ref r_0), some (.int x_1), o_2] [] h z c s) (K2 : ¬ ((f7 ((x_1 + 36) + v_fs1_6).toNatClampNeg) ≤ v_fs1_7) → ip sc call 116 MC MS Q 310 [some (.ref r_0), some (.int x_1), o_2] [] h z c s) : ip sc call 116 MC MS Q 289 [some (.ref r_0), some (.int x_1), o_2] [] h z c s := by
  refine jp_load (pc2 := 290) (n := 0) rfl rfl rfl rfl ?_
  refine jp_getf (pc2 := 293) rfl rfl e2 e3 ?_
  refine jp_load (pc2 := 294) (n := 0) rfl rfl rfl rfl ?_
  refine jp_getf (pc2 := 297) rfl rfl e2 e4 ?_
  refine jp_load (pc2 := 298) (n := 1) rfl rfl rfl rfl ?_
  refine jp_con (pc2 := 300) (v := .int 36) rfl rfl rfl ?_
  refine jp_bin (pc2 := 301) (v := x_1 + 36) rfl rfl rfl ?_
  refine jp_load (pc2 := 302) (n := 0) rfl rfl rfl rfl ?_
  refine jp_getf (pc2 := 305) rfl rfl e2 e5 ?_
  refine jp_bin (pc2 := 306) (v := (x_1 + 36) + v_fs1_6) rfl rfl rfl ?_
  refine jp_iald (pc2 := 307) rfl rfl e8 b9 ?_
  exact jp_icmp (pc2 := 310) rfl rfl K1 K2
set_option maxRecDepth 100000 in
theorem b116_310 {r_0 : Nat} {x_1 : Int32} {o_2 : Option Value} {fs1 : List Value} {v_fs1_7 : Int32} (e2 : h r_0 = some (.inr (9, fs1))) (e3 : fs1[7]? = some (.int v_fs1_7)) (l4 : fs1.length = 16) (K : ip sc call 116 MC MS Q 114 [some (.ref r_0), some (.int x_1), o_2] [] (hup (hup (hup (hup h r_0 (.inr (9, (fs1.set 7 (.int (v_fs1_7 + 1)))))) r_0 (.inr (9, ((fs1.set 7 (.int (v_fs1_7 + 1))).set 8 (.int 0))))) r_0 (.inr (9, (((fs1.set 7 (.int (v_fs1_7 + 1))).set 8 (.int 0)).set 9 (.int (v_fs1_7 + 1)))))) r_0 (.inr (9, ((((fs1.set 7 (.int (v_fs1_7 + 1))).set 8 (.int 0)).set 9 (.int (v_fs1_7 + 1))).set 10 (.int 0))))) z c s) : ip sc call 116 MC MS Q 310 [some (.ref r_0), some (.int x_1), o_2] [] h z c s := by
  refine jp_load (pc2 := 311) (n := 0) rfl rfl rfl rfl ?_
  refine jp_dup (pc2 := 312) rfl rfl rfl ?_
  refine jp_getf (pc2 := 315) rfl rfl e2 e3 ?_
  refine jp_con (pc2 := 316) (v := .int 1) rfl rfl rfl ?_
  refine jp_bin (pc2 := 317) (v := v_fs1_7 + 1) rfl rfl rfl ?_
  refine jp_putf (pc2 := 320) rfl rfl e2 (ln_lt l4 (by decide)) ⟨rfl, rfl⟩ ?_
  refine jp_load (pc2 := 321) (n := 0) rfl rfl rfl rfl ?_
  refine jp_con (pc2 := 322) (v := .int 0) rfl rfl rfl ?_
  refine jp_putf (pc2 := 325) rfl rfl hup_eq (ls_lt (ln_lt l4 (by decide))) ⟨rfl, rfl⟩ ?_
  refine jp_load (pc2 := 326) (n := 0) rfl rfl rfl rfl ?_
  refine jp_load (pc2 := 327) (n := 0) rfl rfl rfl rfl ?_
  refine jp_getf (pc2 := 330) rfl rfl hup_eq (gs_ne (by decide) (gs_eq (ln_lt l4 (by decide)))) ?_
  refine jp_putf (pc2 := 333) rfl rfl hup_eq (ls_lt (ls_lt (ln_lt l4 (by decide)))) ⟨rfl, rfl⟩ ?_
  refine jp_load (pc2 := 334) (n := 0) rfl rfl rfl rfl ?_
  refine jp_con (pc2 := 335) (v := .int 0) rfl rfl rfl ?_
  refine jp_putf (pc2 := 338) rfl rfl hup_eq (ls_lt (ls_lt (ls_lt (ln_lt l4 (by decide))))) ⟨rfl, rfl⟩ ?_
  refine ip_goto rfl ?_
  exact K
set_option maxRecDepth 100000 in
theorem b116_341 {r_0 : Nat} {x_1 : Int32} {o_2 : Option Value} {fs1 : List Value} {v_fs1_6 : Int32} (e2 : h r_0 = some (.inr (9, fs1))) (e3 : fs1[6]? = some (.int v_fs1_6)) (l4 : fs1.length = 16) (K : ip sc call 116 MC MS Q 114 [some (.ref r_0), some (.int x_1), o_2] [] (hup (hup (hup (hup (hup h r_0 (.inr (9, (fs1.set 6 (.int (v_fs1_6 + 1)))))) r_0 (.inr (9, ((fs1.set 6 (.int (v_fs1_6 + 1))).set 7 (.int 0))))) r_0 (.inr (9, (((fs1.set 6 (.int (v_fs1_6 + 1))).set 7 (.int 0)).set 8 (.int 0))))) r_0 (.inr (9, ((((fs1.set 6 (.int (v_fs1_6 + 1))).set 7 (.int 0)).set 8 (.int 0)).set 9 (.int 0))))) r_0 (.inr (9, (((((fs1.set 6 (.int (v_fs1_6 + 1))).set 7 (.int 0)).set 8 (.int 0)).set 9 (.int 0)).set 10 (.int 0))))) z c s) : ip sc call 116 MC MS Q 341 [some (.ref r_0), some (.int x_1), o_2] [] h z c s := by
  refine jp_load (pc2 := 342) (n := 0) rfl rfl rfl rfl ?_
  refine jp_dup (pc2 := 343) rfl rfl rfl ?_
  refine jp_getf (pc2 := 346) rfl rfl e2 e3 ?_
  refine jp_con (pc2 := 347) (v := .int 1) rfl rfl rfl ?_
  refine jp_bin (pc2 := 348) (v := v_fs1_6 + 1) rfl rfl rfl ?_
  refine jp_putf (pc2 := 351) rfl rfl e2 (ln_lt l4 (by decide)) ⟨rfl, rfl⟩ ?_
  refine jp_load (pc2 := 352) (n := 0) rfl rfl rfl rfl ?_
  refine jp_con (pc2 := 353) (v := .int 0) rfl rfl rfl ?_
  refine jp_putf (pc2 := 356) rfl rfl hup_eq (ls_lt (ln_lt l4 (by decide))) ⟨rfl, rfl⟩ ?_
  refine jp_load (pc2 := 357) (n := 0) rfl rfl rfl rfl ?_
  refine jp_con (pc2 := 358) (v := .int 0) rfl rfl rfl ?_
  refine jp_putf (pc2 := 361) rfl rfl hup_eq (ls_lt (ls_lt (ln_lt l4 (by decide)))) ⟨rfl, rfl⟩ ?_
  refine jp_load (pc2 := 362) (n := 0) rfl rfl rfl rfl ?_
  refine jp_con (pc2 := 363) (v := .int 0) rfl rfl rfl ?_
  refine jp_putf (pc2 := 366) rfl rfl hup_eq (ls_lt (ls_lt (ls_lt (ln_lt l4 (by decide))))) ⟨rfl, rfl⟩ ?_
  refine jp_load (pc2 := 367) (n := 0) rfl rfl rfl rfl ?_
  refine jp_con (pc2 := 368) (v := .int 0) rfl rfl rfl ?_
  refine jp_putf (pc2 := 371) rfl rfl hup_eq (ls_lt (ls_lt (ls_lt (ls_lt (ln_lt l4 (by decide)))))) ⟨rfl, rfl⟩ ?_
  refine ip_goto rfl ?_
  exact K
set_option maxRecDepth 100000 in
theorem b116_374 {o_0 : Option Value} {o_1 : Option Value} {o_2 : Option Value} (q1 : Q (some (.int 0)) h z)  : ip sc call 116 MC MS Q 374 [o_0, o_1, o_2] [] h z c s := by
  refine jp_con (pc2 := 375) (v := .int 0) rfl rfl rfl ?_
  exact ip_iret (st := []) rfl rfl rfl q1
theorem b117_0 {r_0 : Nat} {x_1 : Int32} {o_2 : Option Value} {o_3 : Option Value} {fs1 : List Value} {P : ipQ} (e2 : h r_0 = some (.inr (9, fs1))) (m3 : c ≤ MC) (m4 : s ≤ MS) (hc : call 94 [(.ref r_0)] h z 0 0 P) (K : ∀ (o : Option Value) (h2 : HP) (z2 : Nat), P o h2 z2 → ip sc call 117 MC MS Q 4 [some (.ref r_0), some (.int x_1), o_2, o_3] (o.toList ++ []) h2 z2 c s) : ip sc call 117 MC MS Q 0 [some (.ref r_0), some (.int x_1), o_2, o_3] [] h z c s := by
  refine jp_load (pc2 := 1) (n := 0) rfl rfl rfl rfl ?_
  exact jp_virt0 (pc2 := 4) (As := []) (rest := []) rfl rfl rfl (Nat.le_of_ble_eq_true rfl) e2 m3 m4 hc rfl K
theorem b117_4 {r_0 : Nat} {x_1 : Int32} {o_2 : Option Value} {o_3 : Option Value} {sx_0 : Int32} {tgt : Nat} (t1 : ipTab 8 86 0 5 #[40, 49, 58, 65, 71, 80] x_1 = some tgt) (K : ip sc call 117 MC MS Q tgt [some (.ref r_0), some (.int x_1), some (.int sx_0), some (.int 0)] [] h z c s) : ip sc call 117 MC MS Q 4 [some (.ref r_0), some (.int x_1), o_2, o_3] [(.int sx_0)] h z c s := by
  refine jp_store (pc2 := 5) (n := 2) rfl rfl ⟨rfl, rfl⟩ rfl (Nat.le_of_ble_eq_true rfl) ?_
  refine jp_con (pc2 := 6) (v := .int 0) rfl rfl rfl ?_
  refine jp_store (pc2 := 7) (n := 3) rfl rfl ⟨rfl, rfl⟩ rfl (Nat.le_of_ble_eq_true rfl) ?_
  refine jp_load (pc2 := 8) (n := 1) rfl rfl rfl rfl ?_
  exact ip_tab rfl t1 K
theorem b117_48 {r_0 : Nat} {o_1 : Option Value} {x_2 : Int32} {o_3 : Option Value} {fs1 : List Value} {q_fs1_0 : Nat} {n4 : Nat} {f5 : Nat → Int32} (e2 : h r_0 = some (.inr (9, fs1))) (e3 : fs1[0]? = some (.ref q_fs1_0)) (e6 : h q_fs1_0 = some (.inl (0, n4, .inl f5))) (b7 : vp_in (x_2 + 0) n4) (q8 : Q (some (.int (f5 (x_2 + 0).toNatClampNeg))) h z)  : ip sc call 117 MC MS Q 48 [some (.ref r_0), o_1, some (.int x_2), o_3] [] h z c s := by
  refine jp_load (pc2 := 49) (n := 0) rfl rfl rfl rfl ?_
  refine jp_getf (pc2 := 52) rfl rfl e2 e3 ?_
  refine jp_load (pc2 := 53) (n := 2) rfl rfl rfl rfl ?_
  refine jp_con (pc2 := 54) (v := .int 0) rfl rfl rfl ?_
  refine jp_bin (pc2 := 55) (v := x_2 + 0) rfl rfl rfl ?_
  refine jp_iald (pc2 := 56) rfl rfl e6 b7 ?_
  exact ip_iret (st := []) rfl rfl rfl q8
theorem b117_57 {r_0 : Nat} {o_1 : Option Value} {x_2 : Int32} {o_3 : Option Value} {fs1 : List Value} {q_fs1_0 : Nat} {n4 : Nat} {f5 : Nat → Int32} (e2 : h r_0 = some (.inr (9, fs1))) (e3 : fs1[0]? = some (.ref q_fs1_0)) (e6 : h q_fs1_0 = some (.inl (0, n4, .inl f5))) (b7 : vp_in (x_2 + 1) n4) (q8 : Q (some (.int (f5 (x_2 + 1).toNatClampNeg))) h z)  : ip sc call 117 MC MS Q 57 [some (.ref r_0), o_1, some (.int x_2), o_3] [] h z c s := by
  refine jp_load (pc2 := 58) (n := 0) rfl rfl rfl rfl ?_
  refine jp_getf (pc2 := 61) rfl rfl e2 e3 ?_
  refine jp_load (pc2 := 62) (n := 2) rfl rfl rfl rfl ?_
  refine jp_con (pc2 := 63) (v := .int 1) rfl rfl rfl ?_
  refine jp_bin (pc2 := 64) (v := x_2 + 1) rfl rfl rfl ?_
  refine jp_iald (pc2 := 65) rfl rfl e6 b7 ?_
  exact ip_iret (st := []) rfl rfl rfl q8
theorem b117_66 {r_0 : Nat} {o_1 : Option Value} {o_2 : Option Value} {o_3 : Option Value} {fs1 : List Value} {q_fs1_0 : Nat} {n4 : Nat} {f5 : Nat → Int32} (e2 : h r_0 = some (.inr (9, fs1))) (e3 : fs1[0]? = some (.ref q_fs1_0)) (e6 : h q_fs1_0 = some (.inl (0, n4, .inl f5))) (b7 : vp_in (0 : Int32) n4) (q8 : Q (some (.int (f5 (0 : Int32).toNatClampNeg))) h z)  : ip sc call 117 MC MS Q 66 [some (.ref r_0), o_1, o_2, o_3] [] h z c s := by
  refine jp_load (pc2 := 67) (n := 0) rfl rfl rfl rfl ?_
  refine jp_getf (pc2 := 70) rfl rfl e2 e3 ?_
  refine jp_con (pc2 := 71) (v := .int 0) rfl rfl rfl ?_
  refine jp_iald (pc2 := 72) rfl rfl e6 b7 ?_
  exact ip_iret (st := []) rfl rfl rfl q8
theorem b117_73 {r_0 : Nat} {o_1 : Option Value} {x_2 : Int32} {o_3 : Option Value} {fs1 : List Value} {P : ipQ} (e2 : h r_0 = some (.inr (9, fs1))) (m3 : c ≤ MC) (m4 : s ≤ MS) (hc : call 118 [(.ref r_0), (.int x_2)] h z 0 0 P) (K : ∀ (o : Option Value) (h2 : HP) (z2 : Nat), P o h2 z2 → ip sc call 117 MC MS Q 78 [some (.ref r_0), o_1, some (.int x_2), o_3] (o.toList ++ []) h2 z2 c s) : ip sc call 117 MC MS Q 73 [some (.ref r_0), o_1, some (.int x_2), o_3] [] h z c s := by
  refine jp_load (pc2 := 74) (n := 0) rfl rfl rfl rfl ?_
  refine jp_load (pc2 := 75) (n := 2) rfl rfl rfl rfl ?_
  exact jp_virt0 (pc2 := 78) (As := [(.int x_2)]) (rest := []) rfl rfl rfl (Nat.le_of_ble_eq_true rfl) e2 m3 m4 hc rfl K
theorem b117_78 {o_0 : Option Value} {o_1 : Option Value} {o_2 : Option Value} {o_3 : Option Value} {sx_0 : Int32} (q1 : Q (some (.int sx_0)) h z)  : ip sc call 117 MC MS Q 78 [o_0, o_1, o_2, o_3] [(.int sx_0)] h z c s := by
  exact ip_iret (st := []) rfl rfl rfl q1
theorem b117_79 {r_0 : Nat} {o_1 : Option Value} {x_2 : Int32} {o_3 : Option Value} {fs1 : List Value} {q_fs1_0 : Nat} {n4 : Nat} {f5 : Nat → Int32} (e2 : h r_0 = some (.inr (9, fs1))) (e3 : fs1[0]? = some (.ref q_fs1_0)) (e6 : h q_fs1_0 = some (.inl (0, n4, .inl f5))) (b7 : vp_in (x_2 + 2) n4) (q8 : Q (some (.int (f5 (x_2 + 2).toNatClampNeg))) h z)  : ip sc call 117 MC MS Q 79 [some (.ref r_0), o_1, some (.int x_2), o_3] [] h z c s := by
  refine jp_load (pc2 := 80) (n := 0) rfl rfl rfl rfl ?_
  refine jp_getf (pc2 := 83) rfl rfl e2 e3 ?_
  refine jp_load (pc2 := 84) (n := 2) rfl rfl rfl rfl ?_
  refine jp_con (pc2 := 85) (v := .int 2) rfl rfl rfl ?_
  refine jp_bin (pc2 := 86) (v := x_2 + 2) rfl rfl rfl ?_
  refine jp_iald (pc2 := 87) rfl rfl e6 b7 ?_
  exact ip_iret (st := []) rfl rfl rfl q8
theorem b117_88 {r_0 : Nat} {o_1 : Option Value} {x_2 : Int32} {o_3 : Option Value} {fs1 : List Value} {P : ipQ} (e2 : h r_0 = some (.inr (9, fs1))) (m3 : c ≤ MC) (m4 : s ≤ MS) (hc : call 119 [(.ref r_0), (.int x_2)] h z 0 0 P) (K : ∀ (o : Option Value) (h2 : HP) (z2 : Nat), P o h2 z2 → ip sc call 117 MC MS Q 93 [some (.ref r_0), o_1, some (.int x_2), o_3] (o.toList ++ []) h2 z2 c s) : ip sc call 117 MC MS Q 88 [some (.ref r_0), o_1, some (.int x_2), o_3] [] h z c s := by
  refine jp_load (pc2 := 89) (n := 0) rfl rfl rfl rfl ?_
  refine jp_load (pc2 := 90) (n := 2) rfl rfl rfl rfl ?_
  exact jp_virt0 (pc2 := 93) (As := [(.int x_2)]) (rest := []) rfl rfl rfl (Nat.le_of_ble_eq_true rfl) e2 m3 m4 hc rfl K
theorem b117_93 {o_0 : Option Value} {o_1 : Option Value} {o_2 : Option Value} {o_3 : Option Value} {sx_0 : Int32} (q1 : Q (some (.int sx_0)) h z)  : ip sc call 117 MC MS Q 93 [o_0, o_1, o_2, o_3] [(.int sx_0)] h z c s := by
  exact ip_iret (st := []) rfl rfl rfl q1
theorem b117_94 {o_0 : Option Value} {o_1 : Option Value} {o_2 : Option Value} {o_3 : Option Value} (q1 : Q (some (.int ((-1)))) h z)  : ip sc call 117 MC MS Q 94 [o_0, o_1, o_2, o_3] [] h z c s := by
  refine jp_con (pc2 := 95) (v := .int (-1)) rfl rfl rfl ?_
  exact ip_iret (st := []) rfl rfl rfl q1
theorem b118_0 {r_0 : Nat} {x_1 : Int32} {o_2 : Option Value} {o_3 : Option Value}  (K : ip sc call 118 MC MS Q 4 [some (.ref r_0), some (.int x_1), some (.int 0), some (.int 0)] [] h z c s) : ip sc call 118 MC MS Q 0 [some (.ref r_0), some (.int x_1), o_2, o_3] [] h z c s := by
  refine jp_con (pc2 := 1) (v := .int 0) rfl rfl rfl ?_
  refine jp_store (pc2 := 2) (n := 2) rfl rfl ⟨rfl, rfl⟩ rfl (Nat.le_of_ble_eq_true rfl) ?_
  refine jp_con (pc2 := 3) (v := .int 0) rfl rfl rfl ?_
  refine jp_store (pc2 := 4) (n := 3) rfl rfl ⟨rfl, rfl⟩ rfl (Nat.le_of_ble_eq_true rfl) ?_
  exact K
theorem b118_4 {r_0 : Nat} {x_1 : Int32} {x_2 : Int32} {x_3 : Int32} {fs1 : List Value} {q_fs1_0 : Nat} {n4 : Nat} {f5 : Nat → Int32} (e2 : h r_0 = some (.inr (9, fs1))) (e3 : fs1[0]? = some (.ref q_fs1_0)) (e6 : h q_fs1_0 = some (.inl (0, n4, .inl f5))) (b7 : vp_in (x_1 + 0) n4) (K1 : (f5 (x_1 + 0).toNatClampNeg) ≤ x_3 → ip sc call 118 MC MS Q 35 [some (.ref r_0), some (.int x_1), some (.int x_2), some (.int x_3)] [] h z c s) (K2 : ¬ ((f5 (x_1 + 0).toNatClampNeg) ≤ x_3) → ip sc call 118 MC MS Q 16 [some (.ref r_0), some (.int x_1), some (.int x_2), some (.int x_3)] [] h z c s) : ip sc call 118 MC MS Q 4 [some (.ref r_0), some (.int x_1), some (.int x_2), some (.int x_3)] [] h z c s := by
  refine jp_load (pc2 := 5) (n := 3) rfl rfl rfl rfl ?_
  refine jp_load (pc2 := 6) (n := 0) rfl rfl rfl rfl ?_
  refine jp_getf (pc2 := 9) rfl rfl e2 e3 ?_
  refine jp_load (pc2 := 10) (n := 1) rfl rfl rfl rfl ?_
  refine jp_con (pc2 := 11) (v := .int 0) rfl rfl rfl ?_
  refine jp_bin (pc2 := 12) (v := x_1 + 0) rfl rfl rfl ?_
  refine jp_iald (pc2 := 13) rfl rfl e6 b7 ?_
  exact jp_icmp (pc2 := 16) rfl rfl K1 K2
theorem b118_16 {r_0 : Nat} {x_1 : Int32} {x_2 : Int32} {x_3 : Int32} {fs1 : List Value} {q_fs1_0 : Nat} {n4 : Nat} {f5 : Nat → Int32} (e2 : h r_0 = some (.inr (9, fs1))) (e3 : fs1[0]? = some (.ref q_fs1_0)) (e6 : h q_fs1_0 = some (.inl (0, n4, .inl f5))) (b7 : vp_in ((x_1 + 4) + x_3) n4) (K : ip sc call 118 MC MS Q 4 [some (.ref r_0), some (.int x_1), some (.int (x_2 + (f5 ((x_1 + 4) + x_3).toNatClampNeg))), some (.int (x_3 + 1))] [] h z c s) : ip sc call 118 MC MS Q 16 [some (.ref r_0), some (.int x_1), some (.int x_2), some (.int x_3)] [] h z c s := by
  refine jp_load (pc2 := 17) (n := 2) rfl rfl rfl rfl ?_
  refine jp_load (pc2 := 18) (n := 0) rfl rfl rfl rfl ?_
  refine jp_getf (pc2 := 21) rfl rfl e2 e3 ?_
  refine jp_load (pc2 := 22) (n := 1) rfl rfl rfl rfl ?_
  refine jp_con (pc2 := 23) (v := .int 4) rfl rfl rfl ?_
  refine jp_bin (pc2 := 24) (v := x_1 + 4) rfl rfl rfl ?_
  refine jp_load (pc2 := 25) (n := 3) rfl rfl rfl rfl ?_
  refine jp_bin (pc2 := 26) (v := (x_1 + 4) + x_3) rfl rfl rfl ?_
  refine jp_iald (pc2 := 27) rfl rfl e6 b7 ?_
  refine jp_bin (pc2 := 28) (v := x_2 + (f5 ((x_1 + 4) + x_3).toNatClampNeg)) rfl rfl rfl ?_
  refine jp_store (pc2 := 29) (n := 2) rfl rfl ⟨rfl, rfl⟩ rfl (Nat.le_of_ble_eq_true rfl) ?_
  refine jp_iinc (pc2 := 32) (n := 3) (v := x_3 + 1) rfl rfl rfl rfl rfl ?_
  refine ip_goto rfl ?_
  exact K
theorem b118_35 {o_0 : Option Value} {o_1 : Option Value} {x_2 : Int32} {o_3 : Option Value} (q1 : Q (some (.int x_2)) h z)  : ip sc call 118 MC MS Q 35 [o_0, o_1, some (.int x_2), o_3] [] h z c s := by
  refine jp_load (pc2 := 36) (n := 2) rfl rfl rfl rfl ?_
  exact ip_iret (st := []) rfl rfl rfl q1
theorem b119_0 {r_0 : Nat} {x_1 : Int32} {o_2 : Option Value} {o_3 : Option Value} {o_4 : Option Value}  (K : ip sc call 119 MC MS Q 2 [some (.ref r_0), some (.int x_1), some (.int 0), o_3, o_4] [] h z c s) : ip sc call 119 MC MS Q 0 [some (.ref r_0), some (.int x_1), o_2, o_3, o_4] [] h z c s := by
  refine jp_con (pc2 := 1) (v := .int 0) rfl rfl rfl ?_
  refine jp_store (pc2 := 2) (n := 2) rfl rfl ⟨rfl, rfl⟩ rfl (Nat.le_of_ble_eq_true rfl) ?_
  exact K
theorem b119_2 {r_0 : Nat} {x_1 : Int32} {x_2 : Int32} {o_3 : Option Value} {o_4 : Option Value} {fs1 : List Value} {q_fs1_0 : Nat} {n4 : Nat} {f5 : Nat → Int32} (e2 : h r_0 = some (.inr (9, fs1))) (e3 : fs1[0]? = some (.ref q_fs1_0)) (e6 : h q_fs1_0 = some (.inl (0, n4, .inl f5))) (b7 : vp_in (x_1 + 0) n4) (K1 : (f5 (x_1 + 0).toNatClampNeg) ≤ x_2 → ip sc call 119 MC MS Q 27 [some (.ref r_0), some (.int x_1), some (.int x_2), o_3, o_4] [] h z c s) (K2 : ¬ ((f5 (x_1 + 0).toNatClampNeg) ≤ x_2) → ip sc call 119 MC MS Q 14 [some (.ref r_0), some (.int x_1), some (.int x_2), o_3, o_4] [] h z c s) : ip sc call 119 MC MS Q 2 [some (.ref r_0), some (.int x_1), some (.int x_2), o_3, o_4] [] h z c s := by
  refine jp_load (pc2 := 3) (n := 2) rfl rfl rfl rfl ?_
  refine jp_load (pc2 := 4) (n := 0) rfl rfl rfl rfl ?_
  refine jp_getf (pc2 := 7) rfl rfl e2 e3 ?_
  refine jp_load (pc2 := 8) (n := 1) rfl rfl rfl rfl ?_
  refine jp_con (pc2 := 9) (v := .int 0) rfl rfl rfl ?_
  refine jp_bin (pc2 := 10) (v := x_1 + 0) rfl rfl rfl ?_
  refine jp_iald (pc2 := 11) rfl rfl e6 b7 ?_
  exact jp_icmp (pc2 := 14) rfl rfl K1 K2
theorem b119_14 {r_0 : Nat} {x_1 : Int32} {x_2 : Int32} {o_3 : Option Value} {o_4 : Option Value} {fs1 : List Value} {q_fs1_12 : Nat} {n4 : Nat} {f5 : Nat → Int32} (e2 : h r_0 = some (.inr (9, fs1))) (e3 : fs1[12]? = some (.ref q_fs1_12)) (e6 : h q_fs1_12 = some (.inl (0, n4, .inl f5))) (b7 : vp_in x_2 n4) (K : ip sc call 119 MC MS Q 2 [some (.ref r_0), some (.int x_1), some (.int (x_2 + 1)), o_3, o_4] [] (hup h q_fs1_12 (.inl (0, n4, .inl (upd f5 x_2.toNatClampNeg x_2)))) z c s) : ip sc call 119 MC MS Q 14 [some (.ref r_0), some (.int x_1), some (.int x_2), o_3, o_4] [] h z c s := by
  refine jp_load (pc2 := 15) (n := 0) rfl rfl rfl rfl ?_
  refine jp_getf (pc2 := 18) rfl rfl e2 e3 ?_
  refine jp_load (pc2 := 19) (n := 2) rfl rfl rfl rfl ?_
  refine jp_load (pc2 := 20) (n := 2) rfl rfl rfl rfl ?_
  refine jp_iast (pc2 := 21) rfl rfl e6 b7 ?_
  refine jp_iinc (pc2 := 24) (n := 2) (v := x_2 + 1) rfl rfl rfl rfl rfl ?_
  refine ip_goto rfl ?_
  exact K
theorem b119_27 {r_0 : Nat} {x_1 : Int32} {o_2 : Option Value} {o_3 : Option Value} {o_4 : Option Value}  (K : ip sc call 119 MC MS Q 35 [some (.ref r_0), some (.int x_1), some (.int (x_1 + 132)), some (.int 0), o_4] [] h z c s) : ip sc call 119 MC MS Q 27 [some (.ref r_0), some (.int x_1), o_2, o_3, o_4] [] h z c s := by
  refine jp_load (pc2 := 28) (n := 1) rfl rfl rfl rfl ?_
  refine jp_con (pc2 := 31) (v := .int 132) rfl rfl rfl ?_
  refine jp_bin (pc2 := 32) (v := x_1 + 132) rfl rfl rfl ?_
  refine jp_store (pc2 := 33) (n := 2) rfl rfl ⟨rfl, rfl⟩ rfl (Nat.le_of_ble_eq_true rfl) ?_
  refine jp_con (pc2 := 34) (v := .int 0) rfl rfl rfl ?_
  refine jp_store (pc2 := 35) (n := 3) rfl rfl ⟨rfl, rfl⟩ rfl (Nat.le_of_ble_eq_true rfl) ?_
  exact K
theorem b119_35 {r_0 : Nat} {x_1 : Int32} {x_2 : Int32} {x_3 : Int32} {o_4 : Option Value} {fs1 : List Value} {q_fs1_0 : Nat} {n4 : Nat} {f5 : Nat → Int32} (e2 : h r_0 = some (.inr (9, fs1))) (e3 : fs1[0]? = some (.ref q_fs1_0)) (e6 : h q_fs1_0 = some (.inl (0, n4, .inl f5))) (b7 : vp_in (x_1 + 2) n4) (K1 : (f5 (x_1 + 2).toNatClampNeg) ≤ x_3 → ip sc call 119 MC MS Q 112 [some (.ref r_0), some (.int x_1), some (.int x_2), some (.int x_3), o_4] [] h z c s) (K2 : ¬ ((f5 (x_1 + 2).toNatClampNeg) ≤ x_3) → ip sc call 119 MC MS Q 47 [some (.ref r_0), some (.int x_1), some (.int x_2), some (.int x_3), o_4] [] h z c s) : ip sc call 119 MC MS Q 35 [some (.ref r_0), some (.int x_1), some (.int x_2), some (.int x_3), o_4] [] h z c s := by
  refine jp_load (pc2 := 36) (n := 3) rfl rfl rfl rfl ?_
  refine jp_load (pc2 := 37) (n := 0) rfl rfl rfl rfl ?_
  refine jp_getf (pc2 := 40) rfl rfl e2 e3 ?_
  refine jp_load (pc2 := 41) (n := 1) rfl rfl rfl rfl ?_
  refine jp_con (pc2 := 42) (v := .int 2) rfl rfl rfl ?_
  refine jp_bin (pc2 := 43) (v := x_1 + 2) rfl rfl rfl ?_
  refine jp_iald (pc2 := 44) rfl rfl e6 b7 ?_
  exact jp_icmp (pc2 := 47) rfl rfl K1 K2
theorem b119_47 {r_0 : Nat} {x_1 : Int32} {x_2 : Int32} {x_3 : Int32} {o_4 : Option Value}  (K : ip sc call 119 MC MS Q 50 [some (.ref r_0), some (.int x_1), some (.int x_2), some (.int x_3), some (.int 1)] [] h z c s) : ip sc call 119 MC MS Q 47 [some (.ref r_0), some (.int x_1), some (.int x_2), some (.int x_3), o_4] [] h z c s := by
  refine jp_con (pc2 := 48) (v := .int 1) rfl rfl rfl ?_
  refine jp_store (pc2 := 50) (n := 4) rfl rfl ⟨rfl, rfl⟩ rfl (Nat.le_of_ble_eq_true rfl) ?_
  exact K
theorem b119_50 {r_0 : Nat} {x_1 : Int32} {x_2 : Int32} {x_3 : Int32} {x_4 : Int32} {fs1 : List Value} {q_fs1_0 : Nat} {n4 : Nat} {f5 : Nat → Int32} (e2 : h r_0 = some (.inr (9, fs1))) (e3 : fs1[0]? = some (.ref q_fs1_0)) (e6 : h q_fs1_0 = some (.inl (0, n4, .inl f5))) (b7 : vp_in ((x_1 + 68) + x_3) n4) (K1 : (f5 ((x_1 + 68) + x_3).toNatClampNeg) ≤ x_4 → ip sc call 119 MC MS Q 92 [some (.ref r_0), some (.int x_1), some (.int x_2), some (.int x_3), some (.int x_4)] [] h z c s) (K2 : ¬ ((f5 ((x_1 + 68) + x_3).toNatClampNeg) ≤ x_4) → ip sc call 119 MC MS Q 66 [some (.ref r_0), some (.int x_1), some (.int x_2), some (.int x_3), some (.int x_4)] [] h z c s) : ip sc call 119 MC MS Q 50 [some (.ref r_0), some (.int x_1), some (.int x_2), some (.int x_3), some (.int x_4)] [] h z c s := by
  refine jp_load (pc2 := 52) (n := 4) rfl rfl rfl rfl ?_
  refine jp_load (pc2 := 53) (n := 0) rfl rfl rfl rfl ?_
  refine jp_getf (pc2 := 56) rfl rfl e2 e3 ?_
  refine jp_load (pc2 := 57) (n := 1) rfl rfl rfl rfl ?_
  refine jp_con (pc2 := 59) (v := .int 68) rfl rfl rfl ?_
  refine jp_bin (pc2 := 60) (v := x_1 + 68) rfl rfl rfl ?_
  refine jp_load (pc2 := 61) (n := 3) rfl rfl rfl rfl ?_
  refine jp_bin (pc2 := 62) (v := (x_1 + 68) + x_3) rfl rfl rfl ?_
  refine jp_iald (pc2 := 63) rfl rfl e6 b7 ?_
  exact jp_icmp (pc2 := 66) rfl rfl K1 K2
theorem b119_66 {r_0 : Nat} {x_1 : Int32} {x_2 : Int32} {x_3 : Int32} {x_4 : Int32} {fs1 : List Value} {q_fs1_0 : Nat} {n4 : Nat} {f5 : Nat → Int32} {P : ipQ} (e2 : h r_0 = some (.inr (9, fs1))) (e3 : fs1[0]? = some (.ref q_fs1_0)) (e6 : h q_fs1_0 = some (.inl (0, n4, .inl f5))) (b7 : vp_in x_2 n4) (b8 : vp_in (x_2 + x_4) n4) (m9 : c ≤ MC) (m10 : s ≤ MS) (hc : call 120 [(.ref r_0), (.int x_1), (.int (f5 x_2.toNatClampNeg)), (.int (f5 (x_2 + x_4).toNatClampNeg))] h z 0 0 P) (K : ∀ (o : Option Value) (h2 : HP) (z2 : Nat), P o h2 z2 → ip sc call 119 MC MS Q 86 [some (.ref r_0), some (.int x_1), some (.int x_2), some (.int x_3), some (.int x_4)] (o.toList ++ []) h2 z2 c s) : ip sc call 119 MC MS Q 66 [some (.ref r_0), some (.int x_1), some (.int x_2), some (.int x_3), some (.int x_4)] [] h z c s := by
  refine jp_load (pc2 := 67) (n := 0) rfl rfl rfl rfl ?_
  refine jp_load (pc2 := 68) (n := 1) rfl rfl rfl rfl ?_
  refine jp_load (pc2 := 69) (n := 0) rfl rfl rfl rfl ?_
  refine jp_getf (pc2 := 72) rfl rfl e2 e3 ?_
  refine jp_load (pc2 := 73) (n := 2) rfl rfl rfl rfl ?_
  refine jp_iald (pc2 := 74) rfl rfl e6 b7 ?_
  refine jp_load (pc2 := 75) (n := 0) rfl rfl rfl rfl ?_
  refine jp_getf (pc2 := 78) rfl rfl e2 e3 ?_
  refine jp_load (pc2 := 79) (n := 2) rfl rfl rfl rfl ?_
  refine jp_load (pc2 := 81) (n := 4) rfl rfl rfl rfl ?_
  refine jp_bin (pc2 := 82) (v := x_2 + x_4) rfl rfl rfl ?_
  refine jp_iald (pc2 := 83) rfl rfl e6 b8 ?_
  exact jp_virt0 (pc2 := 86) (As := [(.int x_1), (.int (f5 x_2.toNatClampNeg)), (.int (f5 (x_2 + x_4).toNatClampNeg))]) (rest := []) rfl rfl rfl (Nat.le_of_ble_eq_true rfl) e2 m9 m10 hc rfl K
theorem b119_86 {r_0 : Nat} {x_1 : Int32} {x_2 : Int32} {x_3 : Int32} {x_4 : Int32}  (K : ip sc call 119 MC MS Q 50 [some (.ref r_0), some (.int x_1), some (.int x_2), some (.int x_3), some (.int (x_4 + 1))] [] h z c s) : ip sc call 119 MC MS Q 86 [some (.ref r_0), some (.int x_1), some (.int x_2), some (.int x_3), some (.int x_4)] [] h z c s := by
  refine jp_iinc (pc2 := 89) (n := 4) (v := x_4 + 1) rfl rfl rfl rfl rfl ?_
  refine ip_goto rfl ?_
  exact K
theorem b119_92 {r_0 : Nat} {x_1 : Int32} {x_2 : Int32} {x_3 : Int32} {o_4 : Option Value} {fs1 : List Value} {q_fs1_0 : Nat} {n4 : Nat} {f5 : Nat → Int32} (e2 : h r_0 = some (.inr (9, fs1))) (e3 : fs1[0]? = some (.ref q_fs1_0)) (e6 : h q_fs1_0 = some (.inl (0, n4, .inl f5))) (b7 : vp_in ((x_1 + 68) + x_3) n4) (K : ip sc call 119 MC MS Q 35 [some (.ref r_0), some (.int x_1), some (.int (x_2 + (f5 ((x_1 + 68) + x_3).toNatClampNeg))), some (.int (x_3 + 1)), o_4] [] h z c s) : ip sc call 119 MC MS Q 92 [some (.ref r_0), some (.int x_1), some (.int x_2), some (.int x_3), o_4] [] h z c s := by
  refine jp_load (pc2 := 93) (n := 2) rfl rfl rfl rfl ?_
  refine jp_load (pc2 := 94) (n := 0) rfl rfl rfl rfl ?_
  refine jp_getf (pc2 := 97) rfl rfl e2 e3 ?_
  refine jp_load (pc2 := 98) (n := 1) rfl rfl rfl rfl ?_
  refine jp_con (pc2 := 100) (v := .int 68) rfl rfl rfl ?_
  refine jp_bin (pc2 := 101) (v := x_1 + 68) rfl rfl rfl ?_
  refine jp_load (pc2 := 102) (n := 3) rfl rfl rfl rfl ?_
  refine jp_bin (pc2 := 103) (v := (x_1 + 68) + x_3) rfl rfl rfl ?_
  refine jp_iald (pc2 := 104) rfl rfl e6 b7 ?_
  refine jp_bin (pc2 := 105) (v := x_2 + (f5 ((x_1 + 68) + x_3).toNatClampNeg)) rfl rfl rfl ?_
  refine jp_store (pc2 := 106) (n := 2) rfl rfl ⟨rfl, rfl⟩ rfl (Nat.le_of_ble_eq_true rfl) ?_
  refine jp_iinc (pc2 := 109) (n := 3) (v := x_3 + 1) rfl rfl rfl rfl rfl ?_
  refine ip_goto rfl ?_
  exact K
theorem b119_112 {r_0 : Nat} {x_1 : Int32} {o_2 : Option Value} {o_3 : Option Value} {o_4 : Option Value} (k1 : ip2 o_2 = false) (K : ip sc call 119 MC MS Q 117 [some (.ref r_0), some (.int x_1), o_2, some (.int 0), some (.int 0)] [] h z c s) : ip sc call 119 MC MS Q 112 [some (.ref r_0), some (.int x_1), o_2, o_3, o_4] [] h z c s := by
  refine jp_con (pc2 := 113) (v := .int 0) rfl rfl rfl ?_
  refine jp_store (pc2 := 114) (n := 3) rfl rfl ⟨rfl, rfl⟩ k1 (Nat.le_of_ble_eq_true rfl) ?_
  refine jp_con (pc2 := 115) (v := .int 0) rfl rfl rfl ?_
  refine jp_store (pc2 := 117) (n := 4) rfl rfl ⟨rfl, rfl⟩ rfl (Nat.le_of_ble_eq_true rfl) ?_
  exact K
theorem b119_117 {r_0 : Nat} {x_1 : Int32} {o_2 : Option Value} {x_3 : Int32} {x_4 : Int32} {fs1 : List Value} {q_fs1_0 : Nat} {n4 : Nat} {f5 : Nat → Int32} (e2 : h r_0 = some (.inr (9, fs1))) (e3 : fs1[0]? = some (.ref q_fs1_0)) (e6 : h q_fs1_0 = some (.inl (0, n4, .inl f5))) (b7 : vp_in (x_1 + 0) n4) (K1 : (f5 (x_1 + 0).toNatClampNeg) ≤ x_4 → ip sc call 119 MC MS Q 156 [some (.ref r_0), some (.int x_1), o_2, some (.int x_3), some (.int x_4)] [] h z c s) (K2 : ¬ ((f5 (x_1 + 0).toNatClampNeg) ≤ x_4) → ip sc call 119 MC MS Q 130 [some (.ref r_0), some (.int x_1), o_2, some (.int x_3), some (.int x_4)] [] h z c s) : ip sc call 119 MC MS Q 117 [some (.ref r_0), some (.int x_1), o_2, some (.int x_3), some (.int x_4)] [] h z c s := by
  refine jp_load (pc2 := 119) (n := 4) rfl rfl rfl rfl ?_
  refine jp_load (pc2 := 120) (n := 0) rfl rfl rfl rfl ?_
  refine jp_getf (pc2 := 123) rfl rfl e2 e3 ?_
  refine jp_load (pc2 := 124) (n := 1) rfl rfl rfl rfl ?_
  refine jp_con (pc2 := 125) (v := .int 0) rfl rfl rfl ?_
  refine jp_bin (pc2 := 126) (v := x_1 + 0) rfl rfl rfl ?_
  refine jp_iald (pc2 := 127) rfl rfl e6 b7 ?_
  exact jp_icmp (pc2 := 130) rfl rfl K1 K2
theorem b119_130 {r_0 : Nat} {x_1 : Int32} {o_2 : Option Value} {x_3 : Int32} {x_4 : Int32} {fs1 : List Value} {q_fs1_12 : Nat} {n4 : Nat} {f5 : Nat → Int32} (e2 : h r_0 = some (.inr (9, fs1))) (e3 : fs1[12]? = some (.ref q_fs1_12)) (e6 : h q_fs1_12 = some (.inl (0, n4, .inl f5))) (b7 : vp_in x_4 n4) (K1 : ¬ (f5 x_4.toNatClampNeg) = x_4 → ip sc call 119 MC MS Q 147 [some (.ref r_0), some (.int x_1), o_2, some (.int x_3), some (.int x_4)] [(.int x_3)] h z c s) (K2 : ¬ (¬ (f5 x_4.toNatClampNeg) = x_4) → ip sc call 119 MC MS Q 143 [some (.ref r_0), some (.int x_1), o_2, some (.int x_3), some (.int x_4)] [(.int x_3)] h z c s) : ip sc call 119 MC MS Q 130 [some (.ref r_0), some (.int x_1), o_2, some (.int x_3), some (.int x_4)] [] h z c s := by
  refine jp_load (pc2 := 131) (n := 3) rfl rfl rfl rfl ?_
  refine jp_load (pc2 := 132) (n := 0) rfl rfl rfl rfl ?_
  refine jp_getf (pc2 := 135) rfl rfl e2 e3 ?_
  refine jp_load (pc2 := 137) (n := 4) rfl rfl rfl rfl ?_
  refine jp_iald (pc2 := 138) rfl rfl e6 b7 ?_
  refine jp_load (pc2 := 140) (n := 4) rfl rfl rfl rfl ?_
  exact jp_icmp (pc2 := 143) rfl rfl K1 K2
theorem b119_143 {r_0 : Nat} {x_1 : Int32} {o_2 : Option Value} {o_3 : Option Value} {x_4 : Int32} {sx_0 : Int32}  (K : ip sc call 119 MC MS Q 148 [some (.ref r_0), some (.int x_1), o_2, o_3, some (.int x_4)] [(.int 1), (.int sx_0)] h z c s) : ip sc call 119 MC MS Q 143 [some (.ref r_0), some (.int x_1), o_2, o_3, some (.int x_4)] [(.int sx_0)] h z c s := by
  refine jp_con (pc2 := 144) (v := .int 1) rfl rfl rfl ?_
  refine ip_goto rfl ?_
  exact K
theorem b119_147 {r_0 : Nat} {x_1 : Int32} {o_2 : Option Value} {o_3 : Option Value} {x_4 : Int32} {sx_0 : Int32}  (K : ip sc call 119 MC MS Q 148 [some (.ref r_0), some (.int x_1), o_2, o_3, some (.int x_4)] [(.int 0), (.int sx_0)] h z c s) : ip sc call 119 MC MS Q 147 [some (.ref r_0), some (.int x_1), o_2, o_3, some (.int x_4)] [(.int sx_0)] h z c s := by
  refine jp_con (pc2 := 148) (v := .int 0) rfl rfl rfl ?_
  exact K
theorem b119_148 {r_0 : Nat} {x_1 : Int32} {o_2 : Option Value} {o_3 : Option Value} {x_4 : Int32} {sx_0 : Int32} {sx_1 : Int32} (k1 : ip2 o_2 = false) (K : ip sc call 119 MC MS Q 117 [some (.ref r_0), some (.int x_1), o_2, some (.int (sx_0 + sx_1)), some (.int (x_4 + 1))] [] h z c s) : ip sc call 119 MC MS Q 148 [some (.ref r_0), some (.int x_1), o_2, o_3, some (.int x_4)] [(.int sx_1), (.int sx_0)] h z c s := by
  refine jp_bin (pc2 := 149) (v := sx_0 + sx_1) rfl rfl rfl ?_
  refine jp_store (pc2 := 150) (n := 3) rfl rfl ⟨rfl, rfl⟩ k1 (Nat.le_of_ble_eq_true rfl) ?_
  refine jp_iinc (pc2 := 153) (n := 4) (v := x_4 + 1) rfl rfl rfl rfl rfl ?_
  refine ip_goto rfl ?_
  exact K
theorem b119_156 {o_0 : Option Value} {o_1 : Option Value} {o_2 : Option Value} {x_3 : Int32} {o_4 : Option Value} (q1 : Q (some (.int x_3)) h z)  : ip sc call 119 MC MS Q 156 [o_0, o_1, o_2, some (.int x_3), o_4] [] h z c s := by
  refine jp_load (pc2 := 157) (n := 3) rfl rfl rfl rfl ?_
  exact ip_iret (st := []) rfl rfl rfl q1
theorem b120_0 {r_0 : Nat} {x_1 : Int32} {x_2 : Int32} {x_3 : Int32} {o_4 : Option Value} {o_5 : Option Value} {o_6 : Option Value} {fs1 : List Value} {q_fs1_12 : Nat} {n4 : Nat} {f5 : Nat → Int32} (e2 : h r_0 = some (.inr (9, fs1))) (e3 : fs1[12]? = some (.ref q_fs1_12)) (e6 : h q_fs1_12 = some (.inl (0, n4, .inl f5))) (b7 : vp_in x_2 n4) (b8 : vp_in x_3 n4) (K1 : (f5 x_3.toNatClampNeg) ≤ (f5 x_2.toNatClampNeg) → ip sc call 120 MC MS Q 24 [some (.ref r_0), some (.int x_1), some (.int x_2), some (.int x_3), o_4, o_5, o_6] [] h z c s) (K2 : ¬ ((f5 x_3.toNatClampNeg) ≤ (f5 x_2.toNatClampNeg)) → ip sc call 120 MC MS Q 15 [some (.ref r_0), some (.int x_1), some (.int x_2), some (.int x_3), o_4, o_5, o_6] [] h z c s) : ip sc call 120 MC MS Q 0 [some (.ref r_0), some (.int x_1), some (.int x_2), some (.int x_3), o_4, o_5, o_6] [] h z c s := by
  refine jp_load (pc2 := 1) (n := 0) rfl rfl rfl rfl ?_
  refine jp_getf (pc2 := 4) rfl rfl e2 e3 ?_
  refine jp_load (pc2 := 5) (n := 2) rfl rfl rfl rfl ?_
  refine jp_iald (pc2 := 6) rfl rfl e6 b7 ?_
  refine jp_load (pc2 := 7) (n := 0) rfl rfl rfl rfl ?_
  refine jp_getf (pc2 := 10) rfl rfl e2 e3 ?_
  refine jp_load (pc2 := 11) (n := 3) rfl rfl rfl rfl ?_
  refine jp_iald (pc2 := 12) rfl rfl e6 b8 ?_
  exact jp_icmp (pc2 := 15) rfl rfl K1 K2
theorem b120_15 {r_0 : Nat} {x_1 : Int32} {x_2 : Int32} {x_3 : Int32} {o_4 : Option Value} {o_5 : Option Value} {o_6 : Option Value} {fs1 : List Value} {q_fs1_12 : Nat} {n4 : Nat} {f5 : Nat → Int32} (e2 : h r_0 = some (.inr (9, fs1))) (e3 : fs1[12]? = some (.ref q_fs1_12)) (e6 : h q_fs1_12 = some (.inl (0, n4, .inl f5))) (b7 : vp_in x_2 n4) (K : ip sc call 120 MC MS Q 30 [some (.ref r_0), some (.int x_1), some (.int x_2), some (.int x_3), o_4, o_5, o_6] [(.int (f5 x_2.toNatClampNeg))] h z c s) : ip sc call 120 MC MS Q 15 [some (.ref r_0), some (.int x_1), some (.int x_2), some (.int x_3), o_4, o_5, o_6] [] h z c s := by
  refine jp_load (pc2 := 16) (n := 0) rfl rfl rfl rfl ?_
  refine jp_getf (pc2 := 19) rfl rfl e2 e3 ?_
  refine jp_load (pc2 := 20) (n := 2) rfl rfl rfl rfl ?_
  refine jp_iald (pc2 := 21) rfl rfl e6 b7 ?_
  refine ip_goto rfl ?_
  exact K
theorem b120_24 {r_0 : Nat} {x_1 : Int32} {x_2 : Int32} {x_3 : Int32} {o_4 : Option Value} {o_5 : Option Value} {o_6 : Option Value} {fs1 : List Value} {q_fs1_12 : Nat} {n4 : Nat} {f5 : Nat → Int32} (e2 : h r_0 = some (.inr (9, fs1))) (e3 : fs1[12]? = some (.ref q_fs1_12)) (e6 : h q_fs1_12 = some (.inl (0, n4, .inl f5))) (b7 : vp_in x_3 n4) (K : ip sc call 120 MC MS Q 30 [some (.ref r_0), some (.int x_1), some (.int x_2), some (.int x_3), o_4, o_5, o_6] [(.int (f5 x_3.toNatClampNeg))] h z c s) : ip sc call 120 MC MS Q 24 [some (.ref r_0), some (.int x_1), some (.int x_2), some (.int x_3), o_4, o_5, o_6] [] h z c s := by
  refine jp_load (pc2 := 25) (n := 0) rfl rfl rfl rfl ?_
  refine jp_getf (pc2 := 28) rfl rfl e2 e3 ?_
  refine jp_load (pc2 := 29) (n := 3) rfl rfl rfl rfl ?_
  refine jp_iald (pc2 := 30) rfl rfl e6 b7 ?_
  exact K
theorem b120_30 {r_0 : Nat} {x_1 : Int32} {x_2 : Int32} {x_3 : Int32} {o_4 : Option Value} {o_5 : Option Value} {o_6 : Option Value} {sx_0 : Int32} {fs1 : List Value} {q_fs1_12 : Nat} {n4 : Nat} {f5 : Nat → Int32} (e2 : h r_0 = some (.inr (9, fs1))) (e3 : fs1[12]? = some (.ref q_fs1_12)) (e6 : h q_fs1_12 = some (.inl (0, n4, .inl f5))) (b7 : vp_in x_2 n4) (b8 : vp_in x_3 n4) (K1 : (f5 x_3.toNatClampNeg) ≤ (f5 x_2.toNatClampNeg) → ip sc call 120 MC MS Q 56 [some (.ref r_0), some (.int x_1), some (.int x_2), some (.int x_3), some (.int sx_0), o_5, o_6] [] h z c s) (K2 : ¬ ((f5 x_3.toNatClampNeg) ≤ (f5 x_2.toNatClampNeg)) → ip sc call 120 MC MS Q 47 [some (.ref r_0), some (.int x_1), some (.int x_2), some (.int x_3), some (.int sx_0), o_5, o_6] [] h z c s) : ip sc call 120 MC MS Q 30 [some (.ref r_0), some (.int x_1), some (.int x_2), some (.int x_3), o_4, o_5, o_6] [(.int sx_0)] h z c s := by
  refine jp_store (pc2 := 32) (n := 4) rfl rfl ⟨rfl, rfl⟩ rfl (Nat.le_of_ble_eq_true rfl) ?_
  refine jp_load (pc2 := 33) (n := 0) rfl rfl rfl rfl ?_
  refine jp_getf (pc2 := 36) rfl rfl e2 e3 ?_
  refine jp_load (pc2 := 37) (n := 2) rfl rfl rfl rfl ?_
  refine jp_iald (pc2 := 38) rfl rfl e6 b7 ?_
  refine jp_load (pc2 := 39) (n := 0) rfl rfl rfl rfl ?_
  refine jp_getf (pc2 := 42) rfl rfl e2 e3 ?_
  refine jp_load (pc2 := 43) (n := 3) rfl rfl rfl rfl ?_
  refine jp_iald (pc2 := 44) rfl rfl e6 b8 ?_
  exact jp_icmp (pc2 := 47) rfl rfl K1 K2
theorem b120_47 {r_0 : Nat} {x_1 : Int32} {o_2 : Option Value} {x_3 : Int32} {x_4 : Int32} {o_5 : Option Value} {o_6 : Option Value} {fs1 : List Value} {q_fs1_12 : Nat} {n4 : Nat} {f5 : Nat → Int32} (e2 : h r_0 = some (.inr (9, fs1))) (e3 : fs1[12]? = some (.ref q_fs1_12)) (e6 : h q_fs1_12 = some (.inl (0, n4, .inl f5))) (b7 : vp_in x_3 n4) (K : ip sc call 120 MC MS Q 62 [some (.ref r_0), some (.int x_1), o_2, some (.int x_3), some (.int x_4), o_5, o_6] [(.int (f5 x_3.toNatClampNeg))] h z c s) : ip sc call 120 MC MS Q 47 [some (.ref r_0), some (.int x_1), o_2, some (.int x_3), some (.int x_4), o_5, o_6] [] h z c s := by
  refine jp_load (pc2 := 48) (n := 0) rfl rfl rfl rfl ?_
  refine jp_getf (pc2 := 51) rfl rfl e2 e3 ?_
  refine jp_load (pc2 := 52) (n := 3) rfl rfl rfl rfl ?_
  refine jp_iald (pc2 := 53) rfl rfl e6 b7 ?_
  refine ip_goto rfl ?_
  exact K
theorem b120_56 {r_0 : Nat} {x_1 : Int32} {x_2 : Int32} {o_3 : Option Value} {x_4 : Int32} {o_5 : Option Value} {o_6 : Option Value} {fs1 : List Value} {q_fs1_12 : Nat} {n4 : Nat} {f5 : Nat → Int32} (e2 : h r_0 = some (.inr (9, fs1))) (e3 : fs1[12]? = some (.ref q_fs1_12)) (e6 : h q_fs1_12 = some (.inl (0, n4, .inl f5))) (b7 : vp_in x_2 n4) (K : ip sc call 120 MC MS Q 62 [some (.ref r_0), some (.int x_1), some (.int x_2), o_3, some (.int x_4), o_5, o_6] [(.int (f5 x_2.toNatClampNeg))] h z c s) : ip sc call 120 MC MS Q 56 [some (.ref r_0), some (.int x_1), some (.int x_2), o_3, some (.int x_4), o_5, o_6] [] h z c s := by
  refine jp_load (pc2 := 57) (n := 0) rfl rfl rfl rfl ?_
  refine jp_getf (pc2 := 60) rfl rfl e2 e3 ?_
  refine jp_load (pc2 := 61) (n := 2) rfl rfl rfl rfl ?_
  refine jp_iald (pc2 := 62) rfl rfl e6 b7 ?_
  exact K
theorem b120_62 {r_0 : Nat} {x_1 : Int32} {o_2 : Option Value} {o_3 : Option Value} {x_4 : Int32} {o_5 : Option Value} {o_6 : Option Value} {sx_0 : Int32}  (K : ip sc call 120 MC MS Q 67 [some (.ref r_0), some (.int x_1), o_2, o_3, some (.int x_4), some (.int sx_0), some (.int 0)] [] h z c s) : ip sc call 120 MC MS Q 62 [some (.ref r_0), some (.int x_1), o_2, o_3, some (.int x_4), o_5, o_6] [(.int sx_0)] h z c s := by
  refine jp_store (pc2 := 64) (n := 5) rfl rfl ⟨rfl, rfl⟩ rfl (Nat.le_of_ble_eq_true rfl) ?_
  refine jp_con (pc2 := 65) (v := .int 0) rfl rfl rfl ?_
  refine jp_store (pc2 := 67) (n := 6) rfl rfl ⟨rfl, rfl⟩ rfl (Nat.le_of_ble_eq_true rfl) ?_
  exact K
theorem b120_67 {r_0 : Nat} {x_1 : Int32} {o_2 : Option Value} {o_3 : Option Value} {x_4 : Int32} {x_5 : Int32} {x_6 : Int32} {fs1 : List Value} {q_fs1_0 : Nat} {n4 : Nat} {f5 : Nat → Int32} (e2 : h r_0 = some (.inr (9, fs1))) (e3 : fs1[0]? = some (.ref q_fs1_0)) (e6 : h q_fs1_0 = some (.inl (0, n4, .inl f5))) (b7 : vp_in (x_1 + 0) n4) (K1 : (f5 (x_1 + 0).toNatClampNeg) ≤ x_6 → ip sc call 120 MC MS Q 107 [some (.ref r_0), some (.int x_1), o_2, o_3, some (.int x_4), some (.int x_5), some (.int x_6)] [] h z c s) (K2 : ¬ ((f5 (x_1 + 0).toNatClampNeg) ≤ x_6) → ip sc call 120 MC MS Q 80 [some (.ref r_0), some (.int x_1), o_2, o_3, some (.int x_4), some (.int x_5), some (.int x_6)] [] h z c s) : ip sc call 120 MC MS Q 67 [some (.ref r_0), some (.int x_1), o_2, o_3, some (.int x_4), some (.int x_5), some (.int x_6)] [] h z c s := by
  refine jp_load (pc2 := 69) (n := 6) rfl rfl rfl rfl ?_
  refine jp_load (pc2 := 70) (n := 0) rfl rfl rfl rfl ?_
  refine jp_getf (pc2 := 73) rfl rfl e2 e3 ?_
  refine jp_load (pc2 := 74) (n := 1) rfl rfl rfl rfl ?_
  refine jp_con (pc2 := 75) (v := .int 0) rfl rfl rfl ?_
  refine jp_bin (pc2 := 76) (v := x_1 + 0) rfl rfl rfl ?_
  refine jp_iald (pc2 := 77) rfl rfl e6 b7 ?_
  exact jp_icmp (pc2 := 80) rfl rfl K1 K2
theorem b120_80 {r_0 : Nat} {x_1 : Int32} {o_2 : Option Value} {o_3 : Option Value} {x_4 : Int32} {x_5 : Int32} {x_6 : Int32} {fs1 : List Value} {q_fs1_12 : Nat} {n4 : Nat} {f5 : Nat → Int32} (e2 : h r_0 = some (.inr (9, fs1))) (e3 : fs1[12]? = some (.ref q_fs1_12)) (e6 : h q_fs1_12 = some (.inl (0, n4, .inl f5))) (b7 : vp_in x_6 n4) (K1 : ¬ (f5 x_6.toNatClampNeg) = x_5 → ip sc call 120 MC MS Q 101 [some (.ref r_0), some (.int x_1), o_2, o_3, some (.int x_4), some (.int x_5), some (.int x_6)] [] h z c s) (K2 : ¬ (¬ (f5 x_6.toNatClampNeg) = x_5) → ip sc call 120 MC MS Q 92 [some (.ref r_0), some (.int x_1), o_2, o_3, some (.int x_4), some (.int x_5), some (.int x_6)] [] h z c s) : ip sc call 120 MC MS Q 80 [some (.ref r_0), some (.int x_1), o_2, o_3, some (.int x_4), some (.int x_5), some (.int x_6)] [] h z c s := by
  refine jp_load (pc2 := 81) (n := 0) rfl rfl rfl rfl ?_
  refine jp_getf (pc2 := 84) rfl rfl e2 e3 ?_
  refine jp_load (pc2 := 86) (n := 6) rfl rfl rfl rfl ?_
  refine jp_iald (pc2 := 87) rfl rfl e6 b7 ?_
  refine jp_load (pc2 := 89) (n := 5) rfl rfl rfl rfl ?_
  exact jp_icmp (pc2 := 92) rfl rfl K1 K2
theorem b120_92 {r_0 : Nat} {x_1 : Int32} {o_2 : Option Value} {o_3 : Option Value} {x_4 : Int32} {x_5 : Int32} {x_6 : Int32} {fs1 : List Value} {q_fs1_12 : Nat} {n4 : Nat} {f5 : Nat → Int32} (e2 : h r_0 = some (.inr (9, fs1))) (e3 : fs1[12]? = some (.ref q_fs1_12)) (e6 : h q_fs1_12 = some (.inl (0, n4, .inl f5))) (b7 : vp_in x_6 n4) (K : ip sc call 120 MC MS Q 101 [some (.ref r_0), some (.int x_1), o_2, o_3, some (.int x_4), some (.int x_5), some (.int x_6)] [] (hup h q_fs1_12 (.inl (0, n4, .inl (upd f5 x_6.toNatClampNeg x_4)))) z c s) : ip sc call 120 MC MS Q 92 [some (.ref r_0), some (.int x_1), o_2, o_3, some (.int x_4), some (.int x_5), some (.int x_6)] [] h z c s := by
  refine jp_load (pc2 := 93) (n := 0) rfl rfl rfl rfl ?_
  refine jp_getf (pc2 := 96) rfl rfl e2 e3 ?_
  refine jp_load (pc2 := 98) (n := 6) rfl rfl rfl rfl ?_
  refine jp_load (pc2 := 100) (n := 4) rfl rfl rfl rfl ?_
  refine jp_iast (pc2 := 101) rfl rfl e6 b7 ?_
  exact K
theorem b120_101 {r_0 : Nat} {x_1 : Int32} {o_2 : Option Value} {o_3 : Option Value} {x_4 : Int32} {x_5 : Int32} {x_6 : Int32}  (K : ip sc call 120 MC MS Q 67 [some (.ref r_0), some (.int x_1), o_2, o_3, some (.int x_4), some (.int x_5), some (.int (x_6 + 1))] [] h z c s) : ip sc call 120 MC MS Q 101 [some (.ref r_0), some (.int x_1), o_2, o_3, some (.int x_4), some (.int x_5), some (.int x_6)] [] h z c s := by
  refine jp_iinc (pc2 := 104) (n := 6) (v := x_6 + 1) rfl rfl rfl rfl rfl ?_
  refine ip_goto rfl ?_
  exact K
theorem b120_107 {o_0 : Option Value} {o_1 : Option Value} {o_2 : Option Value} {o_3 : Option Value} {o_4 : Option Value} {o_5 : Option Value} {o_6 : Option Value} (q1 : Q none h z)  : ip sc call 120 MC MS Q 107 [o_0, o_1, o_2, o_3, o_4, o_5, o_6] [] h z c s := by
  exact ip_vret (st := []) rfl rfl q1
theorem b121_0 {r_0 : Nat} {x_1 : Int32} {fs1 : List Value} {q_fs1_0 : Nat} {P : ipQ} (e2 : h r_0 = some (.inr (9, fs1))) (e3 : fs1[0]? = some (.ref q_fs1_0)) (m4 : c ≤ MC) (m5 : s ≤ MS) (hc : call 94 [(.ref r_0)] h z 0 0 P) (K : ∀ (o : Option Value) (h2 : HP) (z2 : Nat), P o h2 z2 → ip sc call 121 MC MS Q 9 [some (.ref r_0), some (.int x_1)] (o.toList ++ [(.ref q_fs1_0), (.int x_1)]) h2 z2 c s) : ip sc call 121 MC MS Q 0 [some (.ref r_0), some (.int x_1)] [] h z c s := by
  refine jp_load (pc2 := 1) (n := 1) rfl rfl rfl rfl ?_
  refine jp_load (pc2 := 2) (n := 0) rfl rfl rfl rfl ?_
  refine jp_getf (pc2 := 5) rfl rfl e2 e3 ?_
  refine jp_load (pc2 := 6) (n := 0) rfl rfl rfl rfl ?_
  exact jp_virt0 (pc2 := 9) (As := []) (rest := [(.ref q_fs1_0), (.int x_1)]) rfl rfl rfl (Nat.le_of_ble_eq_true rfl) e2 m4 m5 hc rfl K
theorem b121_9 {o_0 : Option Value} {o_1 : Option Value} {sx_0 : Int32} {sr_1 : Nat} {sx_2 : Int32} {n1 : Nat} {f2 : Nat → Int32} {P : ipQ} (e3 : h sr_1 = some (.inl (0, n1, .inl f2))) (b4 : vp_in (sx_2 + 1) n1) (m5 : c ≤ MC) (m6 : s ≤ MS) (hc : call 95 [(.int sx_0), (.int (f2 (sx_2 + 1).toNatClampNeg))] h z 0 0 P) (K : ∀ (o : Option Value) (h2 : HP) (z2 : Nat), P o h2 z2 → ip sc call 121 MC MS Q 15 [o_0, o_1] (o.toList ++ []) h2 z2 c s) : ip sc call 121 MC MS Q 9 [o_0, o_1] [(.int sx_2), (.ref sr_1), (.int sx_0)] h z c s := by
  refine jp_con (pc2 := 10) (v := .int 1) rfl rfl rfl ?_
  refine jp_bin (pc2 := 11) (v := sx_2 + 1) rfl rfl rfl ?_
  refine jp_iald (pc2 := 12) rfl rfl e3 b4 ?_
  exact jp_stat0 (pc2 := 15) (As := [(.int sx_0), (.int (f2 (sx_2 + 1).toNatClampNeg))]) (rest := []) rfl rfl rfl (Nat.le_of_ble_eq_true rfl) m5 m6 (by decide) hc rfl K
theorem b121_15 {o_0 : Option Value} {o_1 : Option Value} {sx_0 : Int32} (t1 : narrow .boolean (.int sx_0) = .int sx_0) (q2 : Q (some (.int sx_0)) h z)  : ip sc call 121 MC MS Q 15 [o_0, o_1] [(.int sx_0)] h z c s := by
  exact ip_iret (st := []) rfl rfl t1 q2
theorem b122_0 {r_0 : Nat} {x_1 : Int32} {x_2 : Int32} {fs1 : List Value} {P : ipQ} (e2 : h r_0 = some (.inr (9, fs1))) (m3 : c ≤ MC) (m4 : s ≤ MS) (hc : call 121 [(.ref r_0), (.int x_1)] h z 0 0 P) (K : ∀ (o : Option Value) (h2 : HP) (z2 : Nat), P o h2 z2 → ip sc call 122 MC MS Q 5 [some (.ref r_0), some (.int x_1), some (.int x_2)] (o.toList ++ []) h2 z2 c s) : ip sc call 122 MC MS Q 0 [some (.ref r_0), some (.int x_1), some (.int x_2)] [] h z c s := by
  refine jp_load (pc2 := 1) (n := 0) rfl rfl rfl rfl ?_
  refine jp_load (pc2 := 2) (n := 1) rfl rfl rfl rfl ?_
  exact jp_virt0 (pc2 := 5) (As := [(.int x_1)]) (rest := []) rfl rfl rfl (Nat.le_of_ble_eq_true rfl) e2 m3 m4 hc rfl K
theorem b122_5 {r_0 : Nat} {x_1 : Int32} {x_2 : Int32} {sx_0 : Int32}  (K1 : sx_0 = 0 → ip sc call 122 MC MS Q 33 [some (.ref r_0), some (.int x_1), some (.int x_2)] [] h z c s) (K2 : ¬ (sx_0 = 0) → ip sc call 122 MC MS Q 8 [some (.ref r_0), some (.int x_1), some (.int x_2)] [] h z c s) : ip sc call 122 MC MS Q 5 [some (.ref r_0), some (.int x_1), some (.int x_2)] [(.int sx_0)] h z c s := by
  exact jp_if0 (pc2 := 8) rfl rfl K1 K2
theorem b122_8 {r_0 : Nat} {x_1 : Int32} {x_2 : Int32} {fs1 : List Value} {q_fs1_0 : Nat} {P : ipQ} (e2 : h r_0 = some (.inr (9, fs1))) (e3 : fs1[0]? = some (.ref q_fs1_0)) (m4 : c ≤ MC) (m5 : s ≤ MS) (hc : call 94 [(.ref r_0)] h z 0 0 P) (K : ∀ (o : Option Value) (h2 : HP) (z2 : Nat), P o h2 z2 → ip sc call 122 MC MS Q 17 [some (.ref r_0), some (.int x_1), some (.int x_2)] (o.toList ++ [(.ref q_fs1_0), (.int x_2)]) h2 z2 c s) : ip sc call 122 MC MS Q 8 [some (.ref r_0), some (.int x_1), some (.int x_2)] [] h z c s := by
  refine jp_load (pc2 := 9) (n := 2) rfl rfl rfl rfl ?_
  refine jp_load (pc2 := 10) (n := 0) rfl rfl rfl rfl ?_
  refine jp_getf (pc2 := 13) rfl rfl e2 e3 ?_
  refine jp_load (pc2 := 14) (n := 0) rfl rfl rfl rfl ?_
  exact jp_virt0 (pc2 := 17) (As := []) (rest := [(.ref q_fs1_0), (.int x_2)]) rfl rfl rfl (Nat.le_of_ble_eq_true rfl) e2 m4 m5 hc rfl K
theorem b122_17 {o_0 : Option Value} {x_1 : Int32} {o_2 : Option Value} {sx_0 : Int32} {sr_1 : Nat} {sx_2 : Int32} {n1 : Nat} {f2 : Nat → Int32} {P : ipQ} (e3 : h sr_1 = some (.inl (0, n1, .inl f2))) (b4 : vp_in ((sx_2 + 36) + x_1) n1) (m5 : c ≤ MC) (m6 : s ≤ MS) (hc : call 95 [(.int sx_0), (.int (f2 ((sx_2 + 36) + x_1).toNatClampNeg))] h z 0 0 P) (K : ∀ (o : Option Value) (h2 : HP) (z2 : Nat), P o h2 z2 → ip sc call 122 MC MS Q 26 [o_0, some (.int x_1), o_2] (o.toList ++ []) h2 z2 c s) : ip sc call 122 MC MS Q 17 [o_0, some (.int x_1), o_2] [(.int sx_2), (.ref sr_1), (.int sx_0)] h z c s := by
  refine jp_con (pc2 := 19) (v := .int 36) rfl rfl rfl ?_
  refine jp_bin (pc2 := 20) (v := sx_2 + 36) rfl rfl rfl ?_
  refine jp_load (pc2 := 21) (n := 1) rfl rfl rfl rfl ?_
  refine jp_bin (pc2 := 22) (v := (sx_2 + 36) + x_1) rfl rfl rfl ?_
  refine jp_iald (pc2 := 23) rfl rfl e3 b4 ?_
  exact jp_stat0 (pc2 := 26) (As := [(.int sx_0), (.int (f2 ((sx_2 + 36) + x_1).toNatClampNeg))]) (rest := []) rfl rfl rfl (Nat.le_of_ble_eq_true rfl) m5 m6 (by decide) hc rfl K
theorem b122_26 {o_0 : Option Value} {o_1 : Option Value} {o_2 : Option Value} {sx_0 : Int32}  (K1 : sx_0 = 0 → ip sc call 122 MC MS Q 33 [o_0, o_1, o_2] [] h z c s) (K2 : ¬ (sx_0 = 0) → ip sc call 122 MC MS Q 29 [o_0, o_1, o_2] [] h z c s) : ip sc call 122 MC MS Q 26 [o_0, o_1, o_2] [(.int sx_0)] h z c s := by
  exact jp_if0 (pc2 := 29) rfl rfl K1 K2
theorem b122_29 {o_0 : Option Value} {o_1 : Option Value} {o_2 : Option Value}  (K : ip sc call 122 MC MS Q 34 [o_0, o_1, o_2] [(.int 1)] h z c s) : ip sc call 122 MC MS Q 29 [o_0, o_1, o_2] [] h z c s := by
  refine jp_con (pc2 := 30) (v := .int 1) rfl rfl rfl ?_
  refine ip_goto rfl ?_
  exact K
theorem b122_33 {o_0 : Option Value} {o_1 : Option Value} {o_2 : Option Value}  (K : ip sc call 122 MC MS Q 34 [o_0, o_1, o_2] [(.int 0)] h z c s) : ip sc call 122 MC MS Q 33 [o_0, o_1, o_2] [] h z c s := by
  refine jp_con (pc2 := 34) (v := .int 0) rfl rfl rfl ?_
  exact K
theorem b122_34 {o_0 : Option Value} {o_1 : Option Value} {o_2 : Option Value} {sx_0 : Int32} (t1 : narrow .boolean (.int sx_0) = .int sx_0) (q2 : Q (some (.int sx_0)) h z)  : ip sc call 122 MC MS Q 34 [o_0, o_1, o_2] [(.int sx_0)] h z c s := by
  exact ip_iret (st := []) rfl rfl t1 q2
theorem b123_0 {r_0 : Nat} {x_1 : Int32} {x_2 : Int32} {x_3 : Int32} {fs1 : List Value} {P : ipQ} (e2 : h r_0 = some (.inr (9, fs1))) (m3 : c ≤ MC) (m4 : s ≤ MS) (hc : call 122 [(.ref r_0), (.int x_1), (.int x_2)] h z 0 0 P) (K : ∀ (o : Option Value) (h2 : HP) (z2 : Nat), P o h2 z2 → ip sc call 123 MC MS Q 6 [some (.ref r_0), some (.int x_1), some (.int x_2), some (.int x_3)] (o.toList ++ []) h2 z2 c s) : ip sc call 123 MC MS Q 0 [some (.ref r_0), some (.int x_1), some (.int x_2), some (.int x_3)] [] h z c s := by
  refine jp_load (pc2 := 1) (n := 0) rfl rfl rfl rfl ?_
  refine jp_load (pc2 := 2) (n := 1) rfl rfl rfl rfl ?_
  refine jp_load (pc2 := 3) (n := 2) rfl rfl rfl rfl ?_
  exact jp_virt0 (pc2 := 6) (As := [(.int x_1), (.int x_2)]) (rest := []) rfl rfl rfl (Nat.le_of_ble_eq_true rfl) e2 m3 m4 hc rfl K
theorem b123_6 {r_0 : Nat} {x_1 : Int32} {x_2 : Int32} {x_3 : Int32} {sx_0 : Int32}  (K1 : sx_0 = 0 → ip sc call 123 MC MS Q 30 [some (.ref r_0), some (.int x_1), some (.int x_2), some (.int x_3)] [] h z c s) (K2 : ¬ (sx_0 = 0) → ip sc call 123 MC MS Q 9 [some (.ref r_0), some (.int x_1), some (.int x_2), some (.int x_3)] [] h z c s) : ip sc call 123 MC MS Q 6 [some (.ref r_0), some (.int x_1), some (.int x_2), some (.int x_3)] [(.int sx_0)] h z c s := by
  exact jp_if0 (pc2 := 9) rfl rfl K1 K2
theorem b123_9 {r_0 : Nat} {x_1 : Int32} {x_2 : Int32} {x_3 : Int32} {fs1 : List Value} {P : ipQ} (e2 : h r_0 = some (.inr (9, fs1))) (m3 : c ≤ MC) (m4 : s ≤ MS) (hc : call 94 [(.ref r_0)] h z 0 0 P) (K : ∀ (o : Option Value) (h2 : HP) (z2 : Nat), P o h2 z2 → ip sc call 123 MC MS Q 15 [some (.ref r_0), some (.int x_1), some (.int x_2), some (.int x_3)] (o.toList ++ [(.ref r_0), (.int x_3)]) h2 z2 c s) : ip sc call 123 MC MS Q 9 [some (.ref r_0), some (.int x_1), some (.int x_2), some (.int x_3)] [] h z c s := by
  refine jp_load (pc2 := 10) (n := 3) rfl rfl rfl rfl ?_
  refine jp_load (pc2 := 11) (n := 0) rfl rfl rfl rfl ?_
  refine jp_load (pc2 := 12) (n := 0) rfl rfl rfl rfl ?_
  exact jp_virt0 (pc2 := 15) (As := []) (rest := [(.ref r_0), (.int x_3)]) rfl rfl rfl (Nat.le_of_ble_eq_true rfl) e2 m3 m4 hc rfl K
theorem b123_15 {o_0 : Option Value} {x_1 : Int32} {x_2 : Int32} {o_3 : Option Value} {sx_0 : Int32} {sr_1 : Nat} {sx_2 : Int32} {fs1 : List Value} {P : ipQ} (e2 : h sr_1 = some (.inr (9, fs1))) (m3 : c ≤ MC) (m4 : s ≤ MS) (hc : call 113 [(.ref sr_1), (.int sx_2), (.int x_1), (.int x_2)] h z 0 0 P) (K : ∀ (o : Option Value) (h2 : HP) (z2 : Nat), P o h2 z2 → ip sc call 123 MC MS Q 20 [o_0, some (.int x_1), some (.int x_2), o_3] (o.toList ++ [(.int sx_0)]) h2 z2 c s) : ip sc call 123 MC MS Q 15 [o_0, some (.int x_1), some (.int x_2), o_3] [(.int sx_2), (.ref sr_1), (.int sx_0)] h z c s := by
  refine jp_load (pc2 := 16) (n := 1) rfl rfl rfl rfl ?_
  refine jp_load (pc2 := 17) (n := 2) rfl rfl rfl rfl ?_
  exact jp_virt0 (pc2 := 20) (As := [(.int sx_2), (.int x_1), (.int x_2)]) (rest := [(.int sx_0)]) rfl rfl rfl (Nat.le_of_ble_eq_true rfl) e2 m3 m4 hc rfl K
theorem b123_20 {o_0 : Option Value} {o_1 : Option Value} {o_2 : Option Value} {o_3 : Option Value} {sx_0 : Int32} {sx_1 : Int32} {P : ipQ} (m1 : c ≤ MC) (m2 : s ≤ MS) (hc : call 95 [(.int sx_0), (.int sx_1)] h z 0 0 P) (K : ∀ (o : Option Value) (h2 : HP) (z2 : Nat), P o h2 z2 → ip sc call 123 MC MS Q 23 [o_0, o_1, o_2, o_3] (o.toList ++ []) h2 z2 c s) : ip sc call 123 MC MS Q 20 [o_0, o_1, o_2, o_3] [(.int sx_1), (.int sx_0)] h z c s := by
  exact jp_stat0 (pc2 := 23) (As := [(.int sx_0), (.int sx_1)]) (rest := []) rfl rfl rfl (Nat.le_of_ble_eq_true rfl) m1 m2 (by decide) hc rfl K
theorem b123_23 {o_0 : Option Value} {o_1 : Option Value} {o_2 : Option Value} {o_3 : Option Value} {sx_0 : Int32}  (K1 : sx_0 = 0 → ip sc call 123 MC MS Q 30 [o_0, o_1, o_2, o_3] [] h z c s) (K2 : ¬ (sx_0 = 0) → ip sc call 123 MC MS Q 26 [o_0, o_1, o_2, o_3] [] h z c s) : ip sc call 123 MC MS Q 23 [o_0, o_1, o_2, o_3] [(.int sx_0)] h z c s := by
  exact jp_if0 (pc2 := 26) rfl rfl K1 K2
theorem b123_26 {o_0 : Option Value} {o_1 : Option Value} {o_2 : Option Value} {o_3 : Option Value}  (K : ip sc call 123 MC MS Q 31 [o_0, o_1, o_2, o_3] [(.int 1)] h z c s) : ip sc call 123 MC MS Q 26 [o_0, o_1, o_2, o_3] [] h z c s := by
  refine jp_con (pc2 := 27) (v := .int 1) rfl rfl rfl ?_
  refine ip_goto rfl ?_
  exact K
theorem b123_30 {o_0 : Option Value} {o_1 : Option Value} {o_2 : Option Value} {o_3 : Option Value}  (K : ip sc call 123 MC MS Q 31 [o_0, o_1, o_2, o_3] [(.int 0)] h z c s) : ip sc call 123 MC MS Q 30 [o_0, o_1, o_2, o_3] [] h z c s := by
  refine jp_con (pc2 := 31) (v := .int 0) rfl rfl rfl ?_
  exact K
theorem b123_31 {o_0 : Option Value} {o_1 : Option Value} {o_2 : Option Value} {o_3 : Option Value} {sx_0 : Int32} (t1 : narrow .boolean (.int sx_0) = .int sx_0) (q2 : Q (some (.int sx_0)) h z)  : ip sc call 123 MC MS Q 31 [o_0, o_1, o_2, o_3] [(.int sx_0)] h z c s := by
  exact ip_iret (st := []) rfl rfl t1 q2
theorem b124_0 {r_0 : Nat} {x_1 : Int32} {fs1 : List Value} {P : ipQ} (e2 : h r_0 = some (.inr (9, fs1))) (m3 : c ≤ MC) (m4 : s ≤ MS) (hc : call 121 [(.ref r_0), (.int x_1)] h z 0 0 P) (K : ∀ (o : Option Value) (h2 : HP) (z2 : Nat), P o h2 z2 → ip sc call 124 MC MS Q 5 [some (.ref r_0), some (.int x_1)] (o.toList ++ []) h2 z2 c s) : ip sc call 124 MC MS Q 0 [some (.ref r_0), some (.int x_1)] [] h z c s := by
  refine jp_load (pc2 := 1) (n := 0) rfl rfl rfl rfl ?_
  refine jp_load (pc2 := 2) (n := 1) rfl rfl rfl rfl ?_
  exact jp_virt0 (pc2 := 5) (As := [(.int x_1)]) (rest := []) rfl rfl rfl (Nat.le_of_ble_eq_true rfl) e2 m3 m4 hc rfl K
theorem b124_5 {r_0 : Nat} {x_1 : Int32} {sx_0 : Int32}  (K1 : sx_0 = 0 → ip sc call 124 MC MS Q 25 [some (.ref r_0), some (.int x_1)] [] h z c s) (K2 : ¬ (sx_0 = 0) → ip sc call 124 MC MS Q 8 [some (.ref r_0), some (.int x_1)] [] h z c s) : ip sc call 124 MC MS Q 5 [some (.ref r_0), some (.int x_1)] [(.int sx_0)] h z c s := by
  exact jp_if0 (pc2 := 8) rfl rfl K1 K2
theorem b124_8 {r_0 : Nat} {x_1 : Int32} {fs1 : List Value} {q_fs1_0 : Nat} {P : ipQ} (e2 : h r_0 = some (.inr (9, fs1))) (e3 : fs1[0]? = some (.ref q_fs1_0)) (m4 : c ≤ MC) (m5 : s ≤ MS) (hc : call 94 [(.ref r_0)] h z 0 0 P) (K : ∀ (o : Option Value) (h2 : HP) (z2 : Nat), P o h2 z2 → ip sc call 124 MC MS Q 16 [some (.ref r_0), some (.int x_1)] (o.toList ++ [(.ref q_fs1_0)]) h2 z2 c s) : ip sc call 124 MC MS Q 8 [some (.ref r_0), some (.int x_1)] [] h z c s := by
  refine jp_load (pc2 := 9) (n := 0) rfl rfl rfl rfl ?_
  refine jp_getf (pc2 := 12) rfl rfl e2 e3 ?_
  refine jp_load (pc2 := 13) (n := 0) rfl rfl rfl rfl ?_
  exact jp_virt0 (pc2 := 16) (As := []) (rest := [(.ref q_fs1_0)]) rfl rfl rfl (Nat.le_of_ble_eq_true rfl) e2 m4 m5 hc rfl K
theorem b124_16 {o_0 : Option Value} {x_1 : Int32} {sr_0 : Nat} {sx_1 : Int32} {n1 : Nat} {f2 : Nat → Int32} (e3 : h sr_0 = some (.inl (0, n1, .inl f2))) (b4 : vp_in ((sx_1 + 36) + x_1) n1) (K : ip sc call 124 MC MS Q 26 [o_0, some (.int x_1)] [(.int (f2 ((sx_1 + 36) + x_1).toNatClampNeg))] h z c s) : ip sc call 124 MC MS Q 16 [o_0, some (.int x_1)] [(.int sx_1), (.ref sr_0)] h z c s := by
  refine jp_con (pc2 := 18) (v := .int 36) rfl rfl rfl ?_
  refine jp_bin (pc2 := 19) (v := sx_1 + 36) rfl rfl rfl ?_
  refine jp_load (pc2 := 20) (n := 1) rfl rfl rfl rfl ?_
  refine jp_bin (pc2 := 21) (v := (sx_1 + 36) + x_1) rfl rfl rfl ?_
  refine jp_iald (pc2 := 22) rfl rfl e3 b4 ?_
  refine ip_goto rfl ?_
  exact K
theorem b124_25 {o_0 : Option Value} {o_1 : Option Value}  (K : ip sc call 124 MC MS Q 26 [o_0, o_1] [(.int ((-1)))] h z c s) : ip sc call 124 MC MS Q 25 [o_0, o_1] [] h z c s := by
  refine jp_con (pc2 := 26) (v := .int (-1)) rfl rfl rfl ?_
  exact K
theorem b124_26 {o_0 : Option Value} {o_1 : Option Value} {sx_0 : Int32} (q1 : Q (some (.int sx_0)) h z)  : ip sc call 124 MC MS Q 26 [o_0, o_1] [(.int sx_0)] h z c s := by
  exact ip_iret (st := []) rfl rfl rfl q1
theorem b125_0 {r_0 : Nat} {x_1 : Int32} {x_2 : Int32} {fs1 : List Value} {P : ipQ} (e2 : h r_0 = some (.inr (9, fs1))) (m3 : c ≤ MC) (m4 : s ≤ MS) (hc : call 122 [(.ref r_0), (.int x_1), (.int x_2)] h z 0 0 P) (K : ∀ (o : Option Value) (h2 : HP) (z2 : Nat), P o h2 z2 → ip sc call 125 MC MS Q 6 [some (.ref r_0), some (.int x_1), some (.int x_2)] (o.toList ++ []) h2 z2 c s) : ip sc call 125 MC MS Q 0 [some (.ref r_0), some (.int x_1), some (.int x_2)] [] h z c s := by
  refine jp_load (pc2 := 1) (n := 0) rfl rfl rfl rfl ?_
  refine jp_load (pc2 := 2) (n := 1) rfl rfl rfl rfl ?_
  refine jp_load (pc2 := 3) (n := 2) rfl rfl rfl rfl ?_
  exact jp_virt0 (pc2 := 6) (As := [(.int x_1), (.int x_2)]) (rest := []) rfl rfl rfl (Nat.le_of_ble_eq_true rfl) e2 m3 m4 hc rfl K
theorem b125_6 {r_0 : Nat} {x_1 : Int32} {x_2 : Int32} {sx_0 : Int32}  (K1 : sx_0 = 0 → ip sc call 125 MC MS Q 22 [some (.ref r_0), some (.int x_1), some (.int x_2)] [] h z c s) (K2 : ¬ (sx_0 = 0) → ip sc call 125 MC MS Q 9 [some (.ref r_0), some (.int x_1), some (.int x_2)] [] h z c s) : ip sc call 125 MC MS Q 6 [some (.ref r_0), some (.int x_1), some (.int x_2)] [(.int sx_0)] h z c s := by
  exact jp_if0 (pc2 := 9) rfl rfl K1 K2
theorem b125_9 {r_0 : Nat} {x_1 : Int32} {x_2 : Int32} {fs1 : List Value} {P : ipQ} (e2 : h r_0 = some (.inr (9, fs1))) (m3 : c ≤ MC) (m4 : s ≤ MS) (hc : call 94 [(.ref r_0)] h z 0 0 P) (K : ∀ (o : Option Value) (h2 : HP) (z2 : Nat), P o h2 z2 → ip sc call 125 MC MS Q 14 [some (.ref r_0), some (.int x_1), some (.int x_2)] (o.toList ++ [(.ref r_0)]) h2 z2 c s) : ip sc call 125 MC MS Q 9 [some (.ref r_0), some (.int x_1), some (.int x_2)] [] h z c s := by
  refine jp_load (pc2 := 10) (n := 0) rfl rfl rfl rfl ?_
  refine jp_load (pc2 := 11) (n := 0) rfl rfl rfl rfl ?_
  exact jp_virt0 (pc2 := 14) (As := []) (rest := [(.ref r_0)]) rfl rfl rfl (Nat.le_of_ble_eq_true rfl) e2 m3 m4 hc rfl K
theorem b125_14 {o_0 : Option Value} {x_1 : Int32} {x_2 : Int32} {sr_0 : Nat} {sx_1 : Int32} {fs1 : List Value} {P : ipQ} (e2 : h sr_0 = some (.inr (9, fs1))) (m3 : c ≤ MC) (m4 : s ≤ MS) (hc : call 113 [(.ref sr_0), (.int sx_1), (.int x_1), (.int x_2)] h z 0 0 P) (K : ∀ (o : Option Value) (h2 : HP) (z2 : Nat), P o h2 z2 → ip sc call 125 MC MS Q 19 [o_0, some (.int x_1), some (.int x_2)] (o.toList ++ []) h2 z2 c s) : ip sc call 125 MC MS Q 14 [o_0, some (.int x_1), some (.int x_2)] [(.int sx_1), (.ref sr_0)] h z c s := by
  refine jp_load (pc2 := 15) (n := 1) rfl rfl rfl rfl ?_
  refine jp_load (pc2 := 16) (n := 2) rfl rfl rfl rfl ?_
  exact jp_virt0 (pc2 := 19) (As := [(.int sx_1), (.int x_1), (.int x_2)]) (rest := []) rfl rfl rfl (Nat.le_of_ble_eq_true rfl) e2 m3 m4 hc rfl K
theorem b125_19 {o_0 : Option Value} {o_1 : Option Value} {o_2 : Option Value} {sx_0 : Int32}  (K : ip sc call 125 MC MS Q 23 [o_0, o_1, o_2] [(.int sx_0)] h z c s) : ip sc call 125 MC MS Q 19 [o_0, o_1, o_2] [(.int sx_0)] h z c s := by
  refine ip_goto rfl ?_
  exact K
theorem b125_22 {o_0 : Option Value} {o_1 : Option Value} {o_2 : Option Value}  (K : ip sc call 125 MC MS Q 23 [o_0, o_1, o_2] [(.int ((-1)))] h z c s) : ip sc call 125 MC MS Q 22 [o_0, o_1, o_2] [] h z c s := by
  refine jp_con (pc2 := 23) (v := .int (-1)) rfl rfl rfl ?_
  exact K
theorem b125_23 {o_0 : Option Value} {o_1 : Option Value} {o_2 : Option Value} {sx_0 : Int32} (q1 : Q (some (.int sx_0)) h z)  : ip sc call 125 MC MS Q 23 [o_0, o_1, o_2] [(.int sx_0)] h z c s := by
  exact ip_iret (st := []) rfl rfl rfl q1
end BLK
