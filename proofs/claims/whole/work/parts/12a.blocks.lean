/-! straight stretches of bytecode, printed by wip/whole/gen_blk.py -/
section BLK
variable {sc : ipSc} {call : ipCall} {MC MS : Nat} {Q : ipQ} {h : HP} {z c s : Nat}
theorem b0_0g {r_0 : Nat} {o_1 : Option Value} {P : ipQ} {mc ms : Nat} (m1 : c + 1 ≤ MC) (m2 : s + 3 ≤ MS) (m3 : c + 1 + mc ≤ MC) (m4 : s + 3 + ms ≤ MS) (hc : call 27 [(.ref z)] (hup h z (.inr (4, (ipDef 4)))) (z + 1) mc ms P) (K : ∀ (o : Option Value) (h2 : HP) (z2 : Nat), P o h2 z2 → ip sc call 0 MC MS Q 12 [some (.ref r_0), o_1] (o.toList ++ [(.ref z), (.ref r_0)]) h2 z2 (c + 1 + mc) (s + 3 + ms)) : ip sc call 0 MC MS Q 0 [some (.ref r_0), o_1] [] h z c s := by
  refine jp_load (pc2 := 1) (n := 0) rfl rfl rfl rfl ?_
  refine jp_objinit (pc2 := 4) rfl rfl (Nat.le_of_ble_eq_true rfl) ?_
  refine jp_load (pc2 := 5) (n := 0) rfl rfl rfl rfl ?_
  refine jp_new (pc2 := 8) (N := 3) rfl rfl rfl m1 m2 ?_
  refine jp_dup (pc2 := 9) rfl rfl rfl ?_
  exact jp_spec (pc2 := 12) (As := []) (rest := [(.ref z), (.ref r_0)]) rfl rfl rfl (Nat.le_of_ble_eq_true rfl) m3 m4 (by decide) hc rfl K
theorem b0_12 {r_0 : Nat} {o_1 : Option Value} {sr_0 : Nat} {sr_1 : Nat} {fs1 : List Value} {fs6 : List Value} (e2 : h sr_0 = some (.inr (0, fs1))) (l3 : fs1.length = 2) (m4 : c + 1 ≤ MC) (m5 : s + 24 ≤ MS) (e7 : h r_0 = some (.inr (0, fs6))) (n8 : r_0 ≠ sr_0) (n9 : r_0 ≠ z) (l10 : fs6.length = 2) (K : ip sc call 0 MC MS Q 26 [some (.ref r_0), some (.int 0)] [] (hup (hup (hup h sr_0 (.inr (0, (fs1.set 0 (.ref sr_1))))) z (.inl (5, 24, .inr (.inr (.inr (.inr (fun _ => none))))))) r_0 (.inr (0, (fs6.set 1 (.ref z))))) (z + 1) (c + 1) (s + 24)) : ip sc call 0 MC MS Q 12 [some (.ref r_0), o_1] [(.ref sr_1), (.ref sr_0)] h z c s := by
  refine jp_putf (pc2 := 15) rfl rfl e2 (ln_lt l3 (by decide)) ⟨rfl, rfl⟩ ?_
  refine jp_load (pc2 := 16) (n := 0) rfl rfl rfl rfl ?_
  refine jp_con (pc2 := 18) (v := .int 24) rfl rfl rfl ?_
  refine jp_newq (pc2 := 21) (N := 24) rfl rfl (by decide) (by decide) (by decide) m4 m5 ?_
  refine jp_putf (pc2 := 24) rfl rfl (hup_ne n9 (hup_ne n8 e7)) (ln_lt l10 (by decide)) ⟨rfl, rfl⟩ ?_
  refine jp_con (pc2 := 25) (v := .int 0) rfl rfl rfl ?_
  refine jp_store (pc2 := 26) (n := 1) rfl rfl ⟨rfl, rfl⟩ rfl (Nat.le_of_ble_eq_true rfl) ?_
  exact K
theorem b0_26 {r_0 : Nat} {x_1 : Int32}  (K1 : (23 : Int32) < x_1 → ip sc call 0 MC MS Q 52 [some (.ref r_0), some (.int x_1)] [] h z c s) (K2 : ¬ ((23 : Int32) < x_1) → ip sc call 0 MC MS Q 32 [some (.ref r_0), some (.int x_1)] [] h z c s) : ip sc call 0 MC MS Q 26 [some (.ref r_0), some (.int x_1)] [] h z c s := by
  refine jp_load (pc2 := 27) (n := 1) rfl rfl rfl rfl ?_
  refine jp_con (pc2 := 29) (v := .int 23) rfl rfl rfl ?_
  exact jp_icmp (pc2 := 32) rfl rfl K1 K2
theorem b0_32g {r_0 : Nat} {x_1 : Int32} {fs1 : List Value} {q_fs1_1 : Nat} {P : ipQ} {mc ms : Nat} (e2 : h r_0 = some (.inr (0, fs1))) (e3 : fs1[1]? = some (.ref q_fs1_1)) (m4 : c + 1 ≤ MC) (m5 : s + 11 ≤ MS) (m6 : c + 1 + mc ≤ MC) (m7 : s + 11 + ms ≤ MS) (hc : call 35 [(.ref z), (.int 0)] (hup h z (.inr (6, (ipDef 6)))) (z + 1) mc ms P) (K : ∀ (o : Option Value) (h2 : HP) (z2 : Nat), P o h2 z2 → ip sc call 0 MC MS Q 45 [some (.ref r_0), some (.int x_1)] (o.toList ++ [(.ref z), (.int x_1), (.ref q_fs1_1)]) h2 z2 (c + 1 + mc) (s + 11 + ms)) : ip sc call 0 MC MS Q 32 [some (.ref r_0), some (.int x_1)] [] h z c s := by
  refine jp_load (pc2 := 33) (n := 0) rfl rfl rfl rfl ?_
  refine jp_getf (pc2 := 36) rfl rfl e2 e3 ?_
  refine jp_load (pc2 := 37) (n := 1) rfl rfl rfl rfl ?_
  refine jp_new (pc2 := 40) (N := 11) rfl rfl rfl m4 m5 ?_
  refine jp_dup (pc2 := 41) rfl rfl rfl ?_
  refine jp_con (pc2 := 42) (v := .int 0) rfl rfl rfl ?_
  exact jp_spec (pc2 := 45) (As := [(.int 0)]) (rest := [(.ref z), (.int x_1), (.ref q_fs1_1)]) rfl rfl rfl (Nat.le_of_ble_eq_true rfl) m6 m7 (by decide) hc rfl K
theorem b0_45 {r_0 : Nat} {x_1 : Int32} {sr_0 : Nat} {sx_1 : Int32} {sr_2 : Nat} {n1 : Nat} {f2 : Nat → Option Nat} {fs5 : List Value} (e3 : h sr_0 = some (.inl (5, n1, .inr (.inr (.inr (.inr f2)))))) (b4 : vp_in sx_1 n1) (e6 : h sr_2 = some (.inr (6, fs5))) (K : ip sc call 0 MC MS Q 26 [some (.ref r_0), some (.int (x_1 + 1))] [] (hup h sr_0 (.inl (5, n1, .inr (.inr (.inr (.inr (va_up f2 sx_1.toNatClampNeg (some sr_2)))))))) z c s) : ip sc call 0 MC MS Q 45 [some (.ref r_0), some (.int x_1)] [(.ref sr_2), (.int sx_1), (.ref sr_0)] h z c s := by
  refine jp_aast (pc2 := 46) rfl rfl e3 (by decide) e6 b4 ?_
  refine jp_iinc (pc2 := 49) (n := 1) (v := x_1 + 1) rfl rfl rfl rfl rfl ?_
  refine ip_goto rfl ?_
  exact K
theorem b0_52 {o_0 : Option Value} {o_1 : Option Value} (q1 : Q none h z)  : ip sc call 0 MC MS Q 52 [o_0, o_1] [] h z c s := by
  exact ip_vret (st := []) rfl rfl q1
theorem b1_0 {r_0 : Nat} {fs1 : List Value} {q_fs1_1 : Nat} {q_fs1_0 : Nat} {fs5 : List Value} {v_fs5_2 : Int32} {n8 : Nat} {f9 : Nat → Option Nat} {q12 : Nat} (e2 : h r_0 = some (.inr (0, fs1))) (e3 : fs1[1]? = some (.ref q_fs1_1)) (e4 : fs1[0]? = some (.ref q_fs1_0)) (e6 : h q_fs1_0 = some (.inr (4, fs5))) (e7 : fs5[2]? = some (.int v_fs5_2)) (e10 : h q_fs1_1 = some (.inl (5, n8, .inr (.inr (.inr (.inr f9)))))) (b11 : vp_in v_fs5_2 n8) (e13 : f9 v_fs5_2.toNatClampNeg = some q12) (q14 : Q (some (.ref q12)) h z)  : ip sc call 1 MC MS Q 0 [some (.ref r_0)] [] h z c s := by
  refine jp_load (pc2 := 1) (n := 0) rfl rfl rfl rfl ?_
  refine jp_getf (pc2 := 4) rfl rfl e2 e3 ?_
  refine jp_load (pc2 := 5) (n := 0) rfl rfl rfl rfl ?_
  refine jp_getf (pc2 := 8) rfl rfl e2 e4 ?_
  refine jp_getf (pc2 := 11) rfl rfl e6 e7 ?_
  refine jp_aald (pc2 := 12) rfl rfl e10 (by decide) b11 e13 ?_
  exact ip_aret (st := []) rfl rfl q14
theorem b2_0 {r_0 : Nat} {x_1 : Int32} {fs1 : List Value} {q_fs1_0 : Nat} {fs4 : List Value} {q_fs1_1 : Nat} {n9 : Nat} {f10 : Nat → Option Nat} {q14 : Nat} {fs16 : List Value} {P : ipQ} (e2 : h r_0 = some (.inr (0, fs1))) (e3 : fs1[0]? = some (.ref q_fs1_0)) (e5 : h q_fs1_0 = some (.inr (4, fs4))) (l6 : fs4.length = 3) (n7 : r_0 ≠ q_fs1_0) (e8 : fs1[1]? = some (.ref q_fs1_1)) (e11 : h q_fs1_1 = some (.inl (5, n9, .inr (.inr (.inr (.inr f10)))))) (n12 : q_fs1_1 ≠ q_fs1_0) (b13 : vp_in (0 : Int32) n9) (e15 : f10 (0 : Int32).toNatClampNeg = some q14) (e17 : h q14 = some (.inr (6, fs16))) (n18 : q14 ≠ q_fs1_0) (m19 : c ≤ MC) (m20 : s ≤ MS) (hc : call 51 [(.ref q14), (.int x_1)] (hup (hup h q_fs1_0 (.inr (4, (fs4.set 1 (.int x_1))))) q_fs1_0 (.inr (4, ((fs4.set 1 (.int x_1)).set 2 (.int 0))))) z 0 0 P) (K : ∀ (o : Option Value) (h2 : HP) (z2 : Nat), P o h2 z2 → ip sc call 2 MC MS Q 26 [some (.ref r_0), some (.int x_1)] (o.toList ++ []) h2 z2 c s) : ip sc call 2 MC MS Q 0 [some (.ref r_0), some (.int x_1)] [] h z c s := by
  refine jp_load (pc2 := 1) (n := 0) rfl rfl rfl rfl ?_
  refine jp_getf (pc2 := 4) rfl rfl e2 e3 ?_
  refine jp_load (pc2 := 5) (n := 1) rfl rfl rfl rfl ?_
  refine jp_putf (pc2 := 8) rfl rfl e5 (ln_lt l6 (by decide)) ⟨rfl, rfl⟩ ?_
  refine jp_load (pc2 := 9) (n := 0) rfl rfl rfl rfl ?_
  refine jp_getf (pc2 := 12) rfl rfl (hup_ne n7 e2) e3 ?_
  refine jp_con (pc2 := 13) (v := .int 0) rfl rfl rfl ?_
  refine jp_putf (pc2 := 16) rfl rfl hup_eq (ls_lt (ln_lt l6 (by decide))) ⟨rfl, rfl⟩ ?_
  refine jp_load (pc2 := 17) (n := 0) rfl rfl rfl rfl ?_
  refine jp_getf (pc2 := 20) rfl rfl (hup_ne n7 (hup_ne n7 e2)) e8 ?_
  refine jp_con (pc2 := 21) (v := .int 0) rfl rfl rfl ?_
  refine jp_aald (pc2 := 22) rfl rfl (hup_ne n12 (hup_ne n12 e11)) (by decide) b13 e15 ?_
  refine jp_load (pc2 := 23) (n := 1) rfl rfl rfl rfl ?_
  exact jp_virt0 (pc2 := 26) (As := [(.int x_1)]) (rest := []) rfl rfl rfl (Nat.le_of_ble_eq_true rfl) (hup_ne n18 (hup_ne n18 e17)) m19 m20 hc rfl K
theorem b2_26 {o_0 : Option Value} {o_1 : Option Value} (q1 : Q none h z)  : ip sc call 2 MC MS Q 26 [o_0, o_1] [] h z c s := by
  exact ip_vret (st := []) rfl rfl q1
theorem b3_0 {r_0 : Nat} {r_1 : Nat} {o_2 : Option Value} {fs1 : List Value} {q_fs1_0 : Nat} {fs4 : List Value} {v_fs4_2 : Int32} (e2 : h r_0 = some (.inr (0, fs1))) (e3 : fs1[0]? = some (.ref q_fs1_0)) (e5 : h q_fs1_0 = some (.inr (4, fs4))) (e6 : fs4[2]? = some (.int v_fs4_2)) (K1 : v_fs4_2 < 23 → ip sc call 3 MC MS Q 16 [some (.ref r_0), some (.ref r_1), some (.int v_fs4_2)] [] h z c s) (K2 : ¬ (v_fs4_2 < 23) → ip sc call 3 MC MS Q 14 [some (.ref r_0), some (.ref r_1), some (.int v_fs4_2)] [] h z c s) : ip sc call 3 MC MS Q 0 [some (.ref r_0), some (.ref r_1), o_2] [] h z c s := by
  refine jp_load (pc2 := 1) (n := 0) rfl rfl rfl rfl ?_
  refine jp_getf (pc2 := 4) rfl rfl e2 e3 ?_
  refine jp_getf (pc2 := 7) rfl rfl e5 e6 ?_
  refine jp_store (pc2 := 8) (n := 2) rfl rfl ⟨rfl, rfl⟩ rfl (Nat.le_of_ble_eq_true rfl) ?_
  refine jp_load (pc2 := 9) (n := 2) rfl rfl rfl rfl ?_
  refine jp_con (pc2 := 11) (v := .int 23) rfl rfl rfl ?_
  exact jp_icmp (pc2 := 14) rfl rfl K1 K2
theorem b3_14 {o_0 : Option Value} {o_1 : Option Value} {o_2 : Option Value} (q1 : Q (some (.int ((-1)))) h z)  : ip sc call 3 MC MS Q 14 [o_0, o_1, o_2] [] h z c s := by
  refine jp_con (pc2 := 15) (v := .int (-1)) rfl rfl rfl ?_
  exact ip_iret (st := []) rfl rfl rfl q1
theorem b3_16 {r_0 : Nat} {r_1 : Nat} {x_2 : Int32} {fs1 : List Value} {q_fs1_1 : Nat} {n4 : Nat} {f5 : Nat → Option Nat} {q8 : Nat} {q11 : Nat} {fs13 : List Value} {P : ipQ} (e2 : h r_0 = some (.inr (0, fs1))) (e3 : fs1[1]? = some (.ref q_fs1_1)) (e6 : h q_fs1_1 = some (.inl (5, n4, .inr (.inr (.inr (.inr f5)))))) (b7 : vp_in (x_2 + 1) n4) (e9 : f5 (x_2 + 1).toNatClampNeg = some q8) (b10 : vp_in x_2 n4) (e12 : f5 x_2.toNatClampNeg = some q11) (e14 : h q8 = some (.inr (6, fs13))) (m15 : c ≤ MC) (m16 : s ≤ MS) (hc : call 54 [(.ref q8), (.ref q11), (.ref r_1)] h z 0 0 P) (K : ∀ (o : Option Value) (h2 : HP) (z2 : Nat), P o h2 z2 → ip sc call 3 MC MS Q 34 [some (.ref r_0), some (.ref r_1), some (.int x_2)] (o.toList ++ []) h2 z2 c s) : ip sc call 3 MC MS Q 16 [some (.ref r_0), some (.ref r_1), some (.int x_2)] [] h z c s := by
  refine jp_load (pc2 := 17) (n := 0) rfl rfl rfl rfl ?_
  refine jp_getf (pc2 := 20) rfl rfl e2 e3 ?_
  refine jp_load (pc2 := 21) (n := 2) rfl rfl rfl rfl ?_
  refine jp_con (pc2 := 22) (v := .int 1) rfl rfl rfl ?_
  refine jp_bin (pc2 := 23) (v := x_2 + 1) rfl rfl rfl ?_
  refine jp_aald (pc2 := 24) rfl rfl e6 (by decide) b7 e9 ?_
  refine jp_load (pc2 := 25) (n := 0) rfl rfl rfl rfl ?_
  refine jp_getf (pc2 := 28) rfl rfl e2 e3 ?_
  refine jp_load (pc2 := 29) (n := 2) rfl rfl rfl rfl ?_
  refine jp_aald (pc2 := 30) rfl rfl e6 (by decide) b10 e12 ?_
  refine jp_load (pc2 := 31) (n := 1) rfl rfl rfl rfl ?_
  exact jp_virt0 (pc2 := 34) (As := [(.ref q11), (.ref r_1)]) (rest := []) rfl rfl rfl (Nat.le_of_ble_eq_true rfl) e14 m15 m16 hc rfl K
theorem b3_34 {r_0 : Nat} {r_1 : Nat} {x_2 : Int32} {fs1 : List Value} {q_fs1_0 : Nat} {fs4 : List Value} {q_fs4_0 : Nat} {n7 : Nat} {f8 : Nat → Option Nat} {q11 : Nat} {fs13 : List Value} {P : ipQ} (e2 : h r_0 = some (.inr (0, fs1))) (e3 : fs1[0]? = some (.ref q_fs1_0)) (e5 : h q_fs1_0 = some (.inr (4, fs4))) (e6 : fs4[0]? = some (.ref q_fs4_0)) (e9 : h q_fs4_0 = some (.inl (4, n7, .inr (.inr (.inr (.inr f8)))))) (b10 : vp_in x_2 n7) (e12 : f8 x_2.toNatClampNeg = some q11) (e14 : h q11 = some (.inr (2, fs13))) (m15 : c ≤ MC) (m16 : s ≤ MS) (hc : call 12 [(.ref q11), (.ref r_1)] h z 0 0 P) (K : ∀ (o : Option Value) (h2 : HP) (z2 : Nat), P o h2 z2 → ip sc call 3 MC MS Q 47 [some (.ref r_0), some (.ref r_1), some (.int x_2)] (o.toList ++ []) h2 z2 c s) : ip sc call 3 MC MS Q 34 [some (.ref r_0), some (.ref r_1), some (.int x_2)] [] h z c s := by
  refine jp_load (pc2 := 35) (n := 0) rfl rfl rfl rfl ?_
  refine jp_getf (pc2 := 38) rfl rfl e2 e3 ?_
  refine jp_getf (pc2 := 41) rfl rfl e5 e6 ?_
  refine jp_load (pc2 := 42) (n := 2) rfl rfl rfl rfl ?_
  refine jp_aald (pc2 := 43) rfl rfl e9 (by decide) b10 e12 ?_
  refine jp_load (pc2 := 44) (n := 1) rfl rfl rfl rfl ?_
  exact jp_virt0 (pc2 := 47) (As := [(.ref r_1)]) (rest := []) rfl rfl rfl (Nat.le_of_ble_eq_true rfl) e14 m15 m16 hc rfl K
theorem b3_47 {r_0 : Nat} {o_1 : Option Value} {x_2 : Int32} {fs1 : List Value} {q_fs1_0 : Nat} {fs4 : List Value} {q_fs1_1 : Nat} {n9 : Nat} {f10 : Nat → Option Nat} {q14 : Nat} {fs16 : List Value} {v_fs16_8 : Int32} (e2 : h r_0 = some (.inr (0, fs1))) (e3 : fs1[0]? = some (.ref q_fs1_0)) (e5 : h q_fs1_0 = some (.inr (4, fs4))) (l6 : fs4.length = 3) (n7 : r_0 ≠ q_fs1_0) (e8 : fs1[1]? = some (.ref q_fs1_1)) (e11 : h q_fs1_1 = some (.inl (5, n9, .inr (.inr (.inr (.inr f10)))))) (n12 : q_fs1_1 ≠ q_fs1_0) (b13 : vp_in x_2 n9) (e15 : f10 x_2.toNatClampNeg = some q14) (e17 : h q14 = some (.inr (6, fs16))) (n18 : q14 ≠ q_fs1_0) (e19 : fs16[8]? = some (.int v_fs16_8)) (q20 : Q (some (.int v_fs16_8)) (hup h q_fs1_0 (.inr (4, (fs4.set 2 (.int (x_2 + 1)))))) z)  : ip sc call 3 MC MS Q 47 [some (.ref r_0), o_1, some (.int x_2)] [] h z c s := by
  refine jp_load (pc2 := 48) (n := 0) rfl rfl rfl rfl ?_
  refine jp_getf (pc2 := 51) rfl rfl e2 e3 ?_
  refine jp_load (pc2 := 52) (n := 2) rfl rfl rfl rfl ?_
  refine jp_con (pc2 := 53) (v := .int 1) rfl rfl rfl ?_
  refine jp_bin (pc2 := 54) (v := x_2 + 1) rfl rfl rfl ?_
  refine jp_putf (pc2 := 57) rfl rfl e5 (ln_lt l6 (by decide)) ⟨rfl, rfl⟩ ?_
  refine jp_load (pc2 := 58) (n := 0) rfl rfl rfl rfl ?_
  refine jp_getf (pc2 := 61) rfl rfl (hup_ne n7 e2) e8 ?_
  refine jp_load (pc2 := 62) (n := 2) rfl rfl rfl rfl ?_
  refine jp_aald (pc2 := 63) rfl rfl (hup_ne n12 e11) (by decide) b13 e15 ?_
  refine jp_getf (pc2 := 66) rfl rfl (hup_ne n18 e17) e19 ?_
  exact ip_iret (st := []) rfl rfl rfl q20
theorem b4_0 {r_0 : Nat} {fs1 : List Value} {q_fs1_0 : Nat} {fs4 : List Value} {v_fs4_2 : Int32} (e2 : h r_0 = some (.inr (0, fs1))) (e3 : fs1[0]? = some (.ref q_fs1_0)) (e5 : h q_fs1_0 = some (.inr (4, fs4))) (e6 : fs4[2]? = some (.int v_fs4_2)) (K1 : ¬ v_fs4_2 = 0 → ip sc call 4 MC MS Q 12 [some (.ref r_0)] [] h z c s) (K2 : ¬ (¬ v_fs4_2 = 0) → ip sc call 4 MC MS Q 10 [some (.ref r_0)] [] h z c s) : ip sc call 4 MC MS Q 0 [some (.ref r_0)] [] h z c s := by
  refine jp_load (pc2 := 1) (n := 0) rfl rfl rfl rfl ?_
  refine jp_getf (pc2 := 4) rfl rfl e2 e3 ?_
  refine jp_getf (pc2 := 7) rfl rfl e5 e6 ?_
  exact jp_if0 (pc2 := 10) rfl rfl K1 K2
theorem b4_10 {o_0 : Option Value} (q1 : Q (some (.int ((-1)))) h z)  : ip sc call 4 MC MS Q 10 [o_0] [] h z c s := by
  refine jp_con (pc2 := 11) (v := .int (-1)) rfl rfl rfl ?_
  exact ip_iret (st := []) rfl rfl rfl q1
theorem b4_12 {r_0 : Nat} {fs1 : List Value} {q_fs1_0 : Nat} {fs4 : List Value} {v_fs4_2 : Int32} (e2 : h r_0 = some (.inr (0, fs1))) (e3 : fs1[0]? = some (.ref q_fs1_0)) (e5 : h q_fs1_0 = some (.inr (4, fs4))) (e6 : fs4[2]? = some (.int v_fs4_2)) (l7 : fs4.length = 3) (n8 : r_0 ≠ q_fs1_0) (q9 : Q (some (.int (v_fs4_2 - 1))) (hup h q_fs1_0 (.inr (4, (fs4.set 2 (.int (v_fs4_2 - 1)))))) z)  : ip sc call 4 MC MS Q 12 [some (.ref r_0)] [] h z c s := by
  refine jp_load (pc2 := 13) (n := 0) rfl rfl rfl rfl ?_
  refine jp_getf (pc2 := 16) rfl rfl e2 e3 ?_
  refine jp_dup (pc2 := 17) rfl rfl rfl ?_
  refine jp_getf (pc2 := 20) rfl rfl e5 e6 ?_
  refine jp_con (pc2 := 21) (v := .int 1) rfl rfl rfl ?_
  refine jp_bin (pc2 := 22) (v := v_fs4_2 - 1) rfl rfl rfl ?_
  refine jp_putf (pc2 := 25) rfl rfl e5 (ln_lt l7 (by decide)) ⟨rfl, rfl⟩ ?_
  refine jp_load (pc2 := 26) (n := 0) rfl rfl rfl rfl ?_
  refine jp_getf (pc2 := 29) rfl rfl (hup_ne n8 e2) e3 ?_
  refine jp_getf (pc2 := 32) rfl rfl hup_eq (gs_eq (ln_lt l7 (by decide))) ?_
  exact ip_iret (st := []) rfl rfl rfl q9
theorem b5_0 {r_0 : Nat} {r_1 : Nat} {o_2 : Option Value} {fs1 : List Value} {v_fs1_1 : Int32} {fs4 : List Value} {P : ipQ} (e2 : h r_1 = some (.inr (4, fs1))) (e3 : fs1[1]? = some (.int v_fs1_1)) (e5 : h r_0 = some (.inr (0, fs4))) (m6 : c ≤ MC) (m7 : s ≤ MS) (hc : call 2 [(.ref r_0), (.int v_fs1_1)] h z 0 0 P) (K : ∀ (o : Option Value) (h2 : HP) (z2 : Nat), P o h2 z2 → ip sc call 5 MC MS Q 8 [some (.ref r_0), some (.ref r_1), o_2] (o.toList ++ []) h2 z2 c s) : ip sc call 5 MC MS Q 0 [some (.ref r_0), some (.ref r_1), o_2] [] h z c s := by
  refine jp_load (pc2 := 1) (n := 0) rfl rfl rfl rfl ?_
  refine jp_load (pc2 := 2) (n := 1) rfl rfl rfl rfl ?_
  refine jp_getf (pc2 := 5) rfl rfl e2 e3 ?_
  exact jp_virt0 (pc2 := 8) (As := [(.int v_fs1_1)]) (rest := []) rfl rfl rfl (Nat.le_of_ble_eq_true rfl) e5 m6 m7 hc rfl K
theorem b5_8 {r_0 : Nat} {r_1 : Nat} {o_2 : Option Value}  (K : ip sc call 5 MC MS Q 10 [some (.ref r_0), some (.ref r_1), some (.int 0)] [] h z c s) : ip sc call 5 MC MS Q 8 [some (.ref r_0), some (.ref r_1), o_2] [] h z c s := by
  refine jp_con (pc2 := 9) (v := .int 0) rfl rfl rfl ?_
  refine jp_store (pc2 := 10) (n := 2) rfl rfl ⟨rfl, rfl⟩ rfl (Nat.le_of_ble_eq_true rfl) ?_
  exact K
theorem b5_10 {r_0 : Nat} {r_1 : Nat} {x_2 : Int32} {fs1 : List Value} {v_fs1_2 : Int32} (e2 : h r_1 = some (.inr (4, fs1))) (e3 : fs1[2]? = some (.int v_fs1_2)) (K1 : v_fs1_2 ≤ x_2 → ip sc call 5 MC MS Q 35 [some (.ref r_0), some (.ref r_1), some (.int x_2)] [] h z c s) (K2 : ¬ (v_fs1_2 ≤ x_2) → ip sc call 5 MC MS Q 18 [some (.ref r_0), some (.ref r_1), some (.int x_2)] [] h z c s) : ip sc call 5 MC MS Q 10 [some (.ref r_0), some (.ref r_1), some (.int x_2)] [] h z c s := by
  refine jp_load (pc2 := 11) (n := 2) rfl rfl rfl rfl ?_
  refine jp_load (pc2 := 12) (n := 1) rfl rfl rfl rfl ?_
  refine jp_getf (pc2 := 15) rfl rfl e2 e3 ?_
  exact jp_icmp (pc2 := 18) rfl rfl K1 K2
theorem b5_18 {r_0 : Nat} {r_1 : Nat} {x_2 : Int32} {fs1 : List Value} {q_fs1_0 : Nat} {n4 : Nat} {f5 : Nat → Option Nat} {q8 : Nat} {fs10 : List Value} {P : ipQ} (e2 : h r_1 = some (.inr (4, fs1))) (e3 : fs1[0]? = some (.ref q_fs1_0)) (e6 : h q_fs1_0 = some (.inl (4, n4, .inr (.inr (.inr (.inr f5)))))) (b7 : vp_in x_2 n4) (e9 : f5 x_2.toNatClampNeg = some q8) (e11 : h r_0 = some (.inr (0, fs10))) (m12 : c ≤ MC) (m13 : s ≤ MS) (hc : call 3 [(.ref r_0), (.ref q8)] h z 0 0 P) (K : ∀ (o : Option Value) (h2 : HP) (z2 : Nat), P o h2 z2 → ip sc call 5 MC MS Q 28 [some (.ref r_0), some (.ref r_1), some (.int x_2)] (o.toList ++ []) h2 z2 c s) : ip sc call 5 MC MS Q 18 [some (.ref r_0), some (.ref r_1), some (.int x_2)] [] h z c s := by
  refine jp_load (pc2 := 19) (n := 0) rfl rfl rfl rfl ?_
  refine jp_load (pc2 := 20) (n := 1) rfl rfl rfl rfl ?_
  refine jp_getf (pc2 := 23) rfl rfl e2 e3 ?_
  refine jp_load (pc2 := 24) (n := 2) rfl rfl rfl rfl ?_
  refine jp_aald (pc2 := 25) rfl rfl e6 (by decide) b7 e9 ?_
  exact jp_virt0 (pc2 := 28) (As := [(.ref q8)]) (rest := []) rfl rfl rfl (Nat.le_of_ble_eq_true rfl) e11 m12 m13 hc rfl K
theorem b5_28 {r_0 : Nat} {r_1 : Nat} {x_2 : Int32} {sx_0 : Int32}  (K : ip sc call 5 MC MS Q 10 [some (.ref r_0), some (.ref r_1), some (.int (x_2 + 1))] [] h z c s) : ip sc call 5 MC MS Q 28 [some (.ref r_0), some (.ref r_1), some (.int x_2)] [(.int sx_0)] h z c s := by
  refine jp_pop (pc2 := 29) rfl rfl rfl ?_
  refine jp_iinc (pc2 := 32) (n := 2) (v := x_2 + 1) rfl rfl rfl rfl rfl ?_
  refine ip_goto rfl ?_
  exact K
theorem b5_35 {o_0 : Option Value} {o_1 : Option Value} {o_2 : Option Value} (q1 : Q none h z)  : ip sc call 5 MC MS Q 35 [o_0, o_1, o_2] [] h z c s := by
  exact ip_vret (st := []) rfl rfl q1
theorem b6_0 {r_0 : Nat} {fs3 : List Value} (m1 : c + 1 ≤ MC) (m2 : s + 4096 ≤ MS) (e4 : h r_0 = some (.inr (1, fs3))) (n5 : r_0 ≠ z) (l6 : fs3.length = 3) (m7 : c + 1 + 1 ≤ MC) (m8 : s + 4096 + 4096 ≤ MS) (n9 : r_0 ≠ z + 1) (m10 : c + 1 + 1 + 1 ≤ MC) (m11 : s + 4096 + 4096 + 4096 ≤ MS) (n12 : r_0 ≠ z + 1 + 1) (q13 : Q none (hup (hup (hup (hup (hup (hup h z (.inl (1, 4096, .inr (.inl (fun _ => 0))))) r_0 (.inr (1, (fs3.set 0 (.ref z))))) (z + 1) (.inl (1, 4096, .inr (.inl (fun _ => 0))))) r_0 (.inr (1, ((fs3.set 0 (.ref z)).set 1 (.ref (z + 1)))))) (z + 1 + 1) (.inl (2, 4096, .inl (fun _ => 0)))) r_0 (.inr (1, (((fs3.set 0 (.ref z)).set 1 (.ref (z + 1))).set 2 (.ref (z + 1 + 1)))))) (z + 1 + 1 + 1))  : ip sc call 6 MC MS Q 0 [some (.ref r_0)] [] h z c s := by
  refine jp_load (pc2 := 1) (n := 0) rfl rfl rfl rfl ?_
  refine jp_objinit (pc2 := 4) rfl rfl (Nat.le_of_ble_eq_true rfl) ?_
  refine jp_load (pc2 := 5) (n := 0) rfl rfl rfl rfl ?_
  refine jp_con (pc2 := 8) (v := .int 4096) rfl rfl rfl ?_
  refine jp_newa1 (pc2 := 10) (N := 4096) rfl rfl (by decide) (by decide) (by decide) m1 m2 ?_
  refine jp_putf (pc2 := 13) rfl rfl (hup_ne n5 e4) (ln_lt l6 (by decide)) ⟨rfl, rfl⟩ ?_
  refine jp_load (pc2 := 14) (n := 0) rfl rfl rfl rfl ?_
  refine jp_con (pc2 := 17) (v := .int 4096) rfl rfl rfl ?_
  refine jp_newa1 (pc2 := 19) (N := 4096) rfl rfl (by decide) (by decide) (by decide) m7 m8 ?_
  refine jp_putf (pc2 := 22) rfl rfl (hup_ne n9 hup_eq) (ls_lt (ln_lt l6 (by decide))) ⟨rfl, rfl⟩ ?_
  refine jp_load (pc2 := 23) (n := 0) rfl rfl rfl rfl ?_
  refine jp_con (pc2 := 26) (v := .int 4096) rfl rfl rfl ?_
  refine jp_newa2 (pc2 := 28) (N := 4096) rfl rfl (by decide) (by decide) (by decide) m10 m11 ?_
  refine jp_putf (pc2 := 31) rfl rfl (hup_ne n12 hup_eq) (ls_lt (ls_lt (ln_lt l6 (by decide)))) ⟨rfl, rfl⟩ ?_
  exact ip_vret (st := []) rfl rfl q13
theorem b7_0 {o_0 : Option Value} {y_1 : Int64} {o_2 : Option Value} {y_3 : Int64} {o_4 : Option Value} {x_5 : Int32} {o_6 : Option Value} {o_7 : Option Value} (q1 : Q (some (.int ((((((((y_1 * 31) + y_3) * ((-7046029254386353131))).toUInt64 >>> ((52 : Int32).toInt64.toUInt64 &&& Int64.toUInt64 63)).toInt64).toInt32) + x_5) &&& 4095))) h z)  : ip sc call 7 MC MS Q 0 [o_0, some (.long y_1), o_2, some (.long y_3), o_4, some (.int x_5), o_6, o_7] [] h z c s := by
  refine jp_load (pc2 := 1) (n := 1) rfl rfl rfl rfl ?_
  refine jp_con (pc2 := 4) (v := .long 31) rfl rfl rfl ?_
  refine jp_lbin (pc2 := 5) (v := y_1 * 31) rfl rfl rfl ?_
  refine jp_load (pc2 := 6) (n := 3) rfl rfl rfl rfl ?_
  refine jp_lbin (pc2 := 7) (v := (y_1 * 31) + y_3) rfl rfl rfl ?_
  refine jp_con (pc2 := 10) (v := .long (-7046029254386353131)) rfl rfl rfl ?_
  refine jp_lbin (pc2 := 11) (v := ((y_1 * 31) + y_3) * ((-7046029254386353131))) rfl rfl rfl ?_
  refine jp_store2 (pc2 := 13) (n := 6) rfl rfl ⟨rfl, rfl⟩ rfl (Nat.le_of_ble_eq_true rfl) ?_
  refine jp_load (pc2 := 15) (n := 6) rfl rfl rfl rfl ?_
  refine jp_con (pc2 := 17) (v := .int 52) rfl rfl rfl ?_
  refine jp_lsh (pc2 := 18) (v := ((((y_1 * 31) + y_3) * ((-7046029254386353131))).toUInt64 >>> ((52 : Int32).toInt64.toUInt64 &&& Int64.toUInt64 63)).toInt64) rfl rfl rfl ?_
  refine jp_cv (pc2 := 19) (v := (.int ((((((y_1 * 31) + y_3) * ((-7046029254386353131))).toUInt64 >>> ((52 : Int32).toInt64.toUInt64 &&& Int64.toUInt64 63)).toInt64).toInt32))) rfl rfl rfl ?_
  refine jp_load (pc2 := 21) (n := 5) rfl rfl rfl rfl ?_
  refine jp_bin (pc2 := 22) (v := ((((((y_1 * 31) + y_3) * ((-7046029254386353131))).toUInt64 >>> ((52 : Int32).toInt64.toUInt64 &&& Int64.toUInt64 63)).toInt64).toInt32) + x_5) rfl rfl rfl ?_
  refine jp_con (pc2 := 25) (v := .int 4095) rfl rfl rfl ?_
  refine jp_bin (pc2 := 26) (v := (((((((y_1 * 31) + y_3) * ((-7046029254386353131))).toUInt64 >>> ((52 : Int32).toInt64.toUInt64 &&& Int64.toUInt64 63)).toInt64).toInt32) + x_5) &&& 4095) rfl rfl rfl ?_
  exact ip_iret (st := []) rfl rfl rfl q1
theorem b8_0 {r_0 : Nat} {y_1 : Int64} {o_2 : Option Value} {y_3 : Int64} {o_4 : Option Value} {o_5 : Option Value} {o_6 : Option Value} (k1 : ip2 o_4 = false) (K : ip sc call 8 MC MS Q 3 [some (.ref r_0), some (.long y_1), o_2, some (.long y_3), o_4, some (.int 0), o_6] [] h z c s) : ip sc call 8 MC MS Q 0 [some (.ref r_0), some (.long y_1), o_2, some (.long y_3), o_4, o_5, o_6] [] h z c s := by
  refine jp_con (pc2 := 1) (v := .int 0) rfl rfl rfl ?_
  refine jp_store (pc2 := 3) (n := 5) rfl rfl ⟨rfl, rfl⟩ k1 (Nat.le_of_ble_eq_true rfl) ?_
  exact K
theorem b8_3 {r_0 : Nat} {y_1 : Int64} {o_2 : Option Value} {y_3 : Int64} {o_4 : Option Value} {x_5 : Int32} {o_6 : Option Value}  (K1 : (8 : Int32) ≤ x_5 → ip sc call 8 MC MS Q 72 [some (.ref r_0), some (.long y_1), o_2, some (.long y_3), o_4, some (.int x_5), o_6] [] h z c s) (K2 : ¬ ((8 : Int32) ≤ x_5) → ip sc call 8 MC MS Q 10 [some (.ref r_0), some (.long y_1), o_2, some (.long y_3), o_4, some (.int x_5), o_6] [] h z c s) : ip sc call 8 MC MS Q 3 [some (.ref r_0), some (.long y_1), o_2, some (.long y_3), o_4, some (.int x_5), o_6] [] h z c s := by
  refine jp_load (pc2 := 5) (n := 5) rfl rfl rfl rfl ?_
  refine jp_con (pc2 := 7) (v := .int 8) rfl rfl rfl ?_
  exact jp_icmp (pc2 := 10) rfl rfl K1 K2
theorem b8_10 {r_0 : Nat} {y_1 : Int64} {o_2 : Option Value} {y_3 : Int64} {o_4 : Option Value} {x_5 : Int32} {o_6 : Option Value} {fs1 : List Value} {P : ipQ} (e2 : h r_0 = some (.inr (1, fs1))) (m3 : c ≤ MC) (m4 : s ≤ MS) (hc : call 7 [(.ref r_0), (.long y_1), (.long y_3), (.int x_5)] h z 0 0 P) (K : ∀ (o : Option Value) (h2 : HP) (z2 : Nat), P o h2 z2 → ip sc call 8 MC MS Q 18 [some (.ref r_0), some (.long y_1), o_2, some (.long y_3), o_4, some (.int x_5), o_6] (o.toList ++ []) h2 z2 c s) : ip sc call 8 MC MS Q 10 [some (.ref r_0), some (.long y_1), o_2, some (.long y_3), o_4, some (.int x_5), o_6] [] h z c s := by
  refine jp_load (pc2 := 11) (n := 0) rfl rfl rfl rfl ?_
  refine jp_load (pc2 := 12) (n := 1) rfl rfl rfl rfl ?_
  refine jp_load (pc2 := 13) (n := 3) rfl rfl rfl rfl ?_
  refine jp_load (pc2 := 15) (n := 5) rfl rfl rfl rfl ?_
  exact jp_virt0 (pc2 := 18) (As := [(.long y_1), (.long y_3), (.int x_5)]) (rest := []) rfl rfl rfl (Nat.le_of_ble_eq_true rfl) e2 m3 m4 hc rfl K
theorem b8_18 {r_0 : Nat} {y_1 : Int64} {o_2 : Option Value} {y_3 : Int64} {o_4 : Option Value} {x_5 : Int32} {o_6 : Option Value} {sx_0 : Int32} {fs1 : List Value} {q_fs1_2 : Nat} {n4 : Nat} {f5 : Nat → Int32} (e2 : h r_0 = some (.inr (1, fs1))) (e3 : fs1[2]? = some (.ref q_fs1_2)) (e6 : h q_fs1_2 = some (.inl (2, n4, .inl f5))) (b7 : vp_in sx_0 n4) (K1 : ¬ (f5 sx_0.toNatClampNeg) = 0 → ip sc call 8 MC MS Q 32 [some (.ref r_0), some (.long y_1), o_2, some (.long y_3), o_4, some (.int x_5), some (.int sx_0)] [] h z c s) (K2 : ¬ (¬ (f5 sx_0.toNatClampNeg) = 0) → ip sc call 8 MC MS Q 30 [some (.ref r_0), some (.long y_1), o_2, some (.long y_3), o_4, some (.int x_5), some (.int sx_0)] [] h z c s) : ip sc call 8 MC MS Q 18 [some (.ref r_0), some (.long y_1), o_2, some (.long y_3), o_4, some (.int x_5), o_6] [(.int sx_0)] h z c s := by
  refine jp_store (pc2 := 20) (n := 6) rfl rfl ⟨rfl, rfl⟩ rfl (Nat.le_of_ble_eq_true rfl) ?_
  refine jp_load (pc2 := 21) (n := 0) rfl rfl rfl rfl ?_
  refine jp_getf (pc2 := 24) rfl rfl e2 e3 ?_
  refine jp_load (pc2 := 26) (n := 6) rfl rfl rfl rfl ?_
  refine jp_bald (pc2 := 27) rfl rfl e6 (by decide) b7 ?_
  exact jp_if0 (pc2 := 30) rfl rfl K1 K2
theorem b8_30 {o_0 : Option Value} {o_1 : Option Value} {o_2 : Option Value} {o_3 : Option Value} {o_4 : Option Value} {o_5 : Option Value} {o_6 : Option Value} (q1 : Q (some (.int ((-1)))) h z)  : ip sc call 8 MC MS Q 30 [o_0, o_1, o_2, o_3, o_4, o_5, o_6] [] h z c s := by
  refine jp_con (pc2 := 31) (v := .int (-1)) rfl rfl rfl ?_
  exact ip_iret (st := []) rfl rfl rfl q1
theorem b8_32 {r_0 : Nat} {y_1 : Int64} {o_2 : Option Value} {y_3 : Int64} {o_4 : Option Value} {x_5 : Int32} {x_6 : Int32} {fs1 : List Value} {q_fs1_0 : Nat} {n4 : Nat} {f5 : Nat → Int64} (e2 : h r_0 = some (.inr (1, fs1))) (e3 : fs1[0]? = some (.ref q_fs1_0)) (e6 : h q_fs1_0 = some (.inl (1, n4, .inr (.inl f5)))) (b7 : vp_in x_6 n4) (K1 : ¬ (lg_cmp (f5 x_6.toNatClampNeg) y_1) = 0 → ip sc call 8 MC MS Q 66 [some (.ref r_0), some (.long y_1), o_2, some (.long y_3), o_4, some (.int x_5), some (.int x_6)] [] h z c s) (K2 : ¬ (¬ (lg_cmp (f5 x_6.toNatClampNeg) y_1) = 0) → ip sc call 8 MC MS Q 44 [some (.ref r_0), some (.long y_1), o_2, some (.long y_3), o_4, some (.int x_5), some (.int x_6)] [] h z c s) : ip sc call 8 MC MS Q 32 [some (.ref r_0), some (.long y_1), o_2, some (.long y_3), o_4, some (.int x_5), some (.int x_6)] [] h z c s := by
  refine jp_load (pc2 := 33) (n := 0) rfl rfl rfl rfl ?_
  refine jp_getf (pc2 := 36) rfl rfl e2 e3 ?_
  refine jp_load (pc2 := 38) (n := 6) rfl rfl rfl rfl ?_
  refine jp_lald (pc2 := 39) rfl rfl e6 b7 ?_
  refine jp_load (pc2 := 40) (n := 1) rfl rfl rfl rfl ?_
  refine jp_lcmp (pc2 := 41) rfl rfl ?_
  exact jp_if0 (pc2 := 44) rfl rfl K1 K2
theorem b8_44 {r_0 : Nat} {y_1 : Int64} {o_2 : Option Value} {y_3 : Int64} {o_4 : Option Value} {x_5 : Int32} {x_6 : Int32} {fs1 : List Value} {q_fs1_1 : Nat} {n4 : Nat} {f5 : Nat → Int64} (e2 : h r_0 = some (.inr (1, fs1))) (e3 : fs1[1]? = some (.ref q_fs1_1)) (e6 : h q_fs1_1 = some (.inl (1, n4, .inr (.inl f5)))) (b7 : vp_in x_6 n4) (K1 : ¬ (lg_cmp (f5 x_6.toNatClampNeg) y_3) = 0 → ip sc call 8 MC MS Q 66 [some (.ref r_0), some (.long y_1), o_2, some (.long y_3), o_4, some (.int x_5), some (.int x_6)] [] h z c s) (K2 : ¬ (¬ (lg_cmp (f5 x_6.toNatClampNeg) y_3) = 0) → ip sc call 8 MC MS Q 56 [some (.ref r_0), some (.long y_1), o_2, some (.long y_3), o_4, some (.int x_5), some (.int x_6)] [] h z c s) : ip sc call 8 MC MS Q 44 [some (.ref r_0), some (.long y_1), o_2, some (.long y_3), o_4, some (.int x_5), some (.int x_6)] [] h z c s := by
  refine jp_load (pc2 := 45) (n := 0) rfl rfl rfl rfl ?_
  refine jp_getf (pc2 := 48) rfl rfl e2 e3 ?_
  refine jp_load (pc2 := 50) (n := 6) rfl rfl rfl rfl ?_
  refine jp_lald (pc2 := 51) rfl rfl e6 b7 ?_
  refine jp_load (pc2 := 52) (n := 3) rfl rfl rfl rfl ?_
  refine jp_lcmp (pc2 := 53) rfl rfl ?_
  exact jp_if0 (pc2 := 56) rfl rfl K1 K2
theorem b8_56 {r_0 : Nat} {o_1 : Option Value} {o_2 : Option Value} {o_3 : Option Value} {o_4 : Option Value} {o_5 : Option Value} {x_6 : Int32} {fs1 : List Value} {q_fs1_2 : Nat} {n4 : Nat} {f5 : Nat → Int32} (e2 : h r_0 = some (.inr (1, fs1))) (e3 : fs1[2]? = some (.ref q_fs1_2)) (e6 : h q_fs1_2 = some (.inl (2, n4, .inl f5))) (b7 : vp_in x_6 n4) (q8 : Q (some (.int ((f5 x_6.toNatClampNeg) - 1))) h z)  : ip sc call 8 MC MS Q 56 [some (.ref r_0), o_1, o_2, o_3, o_4, o_5, some (.int x_6)] [] h z c s := by
  refine jp_load (pc2 := 57) (n := 0) rfl rfl rfl rfl ?_
  refine jp_getf (pc2 := 60) rfl rfl e2 e3 ?_
  refine jp_load (pc2 := 62) (n := 6) rfl rfl rfl rfl ?_
  refine jp_bald (pc2 := 63) rfl rfl e6 (by decide) b7 ?_
  refine jp_con (pc2 := 64) (v := .int 1) rfl rfl rfl ?_
  refine jp_bin (pc2 := 65) (v := (f5 x_6.toNatClampNeg) - 1) rfl rfl rfl ?_
  exact ip_iret (st := []) rfl rfl rfl q8
theorem b8_66 {r_0 : Nat} {y_1 : Int64} {o_2 : Option Value} {y_3 : Int64} {o_4 : Option Value} {x_5 : Int32} {o_6 : Option Value} (k1 : ip2 o_4 = false) (K : ip sc call 8 MC MS Q 3 [some (.ref r_0), some (.long y_1), o_2, some (.long y_3), o_4, some (.int (x_5 + 1)), o_6] [] h z c s) : ip sc call 8 MC MS Q 66 [some (.ref r_0), some (.long y_1), o_2, some (.long y_3), o_4, some (.int x_5), o_6] [] h z c s := by
  refine jp_iinc (pc2 := 69) (n := 5) (v := x_5 + 1) rfl rfl rfl rfl k1 ?_
  refine ip_goto rfl ?_
  exact K
theorem b8_72 {o_0 : Option Value} {o_1 : Option Value} {o_2 : Option Value} {o_3 : Option Value} {o_4 : Option Value} {o_5 : Option Value} {o_6 : Option Value} (q1 : Q (some (.int ((-1)))) h z)  : ip sc call 8 MC MS Q 72 [o_0, o_1, o_2, o_3, o_4, o_5, o_6] [] h z c s := by
  refine jp_con (pc2 := 73) (v := .int (-1)) rfl rfl rfl ?_
  exact ip_iret (st := []) rfl rfl rfl q1
theorem b9_0 {r_0 : Nat} {y_1 : Int64} {o_2 : Option Value} {y_3 : Int64} {o_4 : Option Value} {x_5 : Int32} {o_6 : Option Value} {o_7 : Option Value} {o_8 : Option Value} {fs1 : List Value} {P : ipQ} (e2 : h r_0 = some (.inr (1, fs1))) (m3 : c ≤ MC) (m4 : s ≤ MS) (hc : call 7 [(.ref r_0), (.long y_1), (.long y_3), (.int 0)] h z 0 0 P) (K : ∀ (o : Option Value) (h2 : HP) (z2 : Nat), P o h2 z2 → ip sc call 9 MC MS Q 7 [some (.ref r_0), some (.long y_1), o_2, some (.long y_3), o_4, some (.int x_5), o_6, o_7, o_8] (o.toList ++ []) h2 z2 c s) : ip sc call 9 MC MS Q 0 [some (.ref r_0), some (.long y_1), o_2, some (.long y_3), o_4, some (.int x_5), o_6, o_7, o_8] [] h z c s := by
  refine jp_load (pc2 := 1) (n := 0) rfl rfl rfl rfl ?_
  refine jp_load (pc2 := 2) (n := 1) rfl rfl rfl rfl ?_
  refine jp_load (pc2 := 3) (n := 3) rfl rfl rfl rfl ?_
  refine jp_con (pc2 := 4) (v := .int 0) rfl rfl rfl ?_
  exact jp_virt0 (pc2 := 7) (As := [(.long y_1), (.long y_3), (.int 0)]) (rest := []) rfl rfl rfl (Nat.le_of_ble_eq_true rfl) e2 m3 m4 hc rfl K
theorem b9_7 {r_0 : Nat} {y_1 : Int64} {o_2 : Option Value} {y_3 : Int64} {o_4 : Option Value} {x_5 : Int32} {o_6 : Option Value} {o_7 : Option Value} {o_8 : Option Value} {sx_0 : Int32}  (K : ip sc call 9 MC MS Q 13 [some (.ref r_0), some (.long y_1), o_2, some (.long y_3), o_4, some (.int x_5), some (.int sx_0), some (.int 7), o_8] [] h z c s) : ip sc call 9 MC MS Q 7 [some (.ref r_0), some (.long y_1), o_2, some (.long y_3), o_4, some (.int x_5), o_6, o_7, o_8] [(.int sx_0)] h z c s := by
  refine jp_store (pc2 := 9) (n := 6) rfl rfl ⟨rfl, rfl⟩ rfl (Nat.le_of_ble_eq_true rfl) ?_
  refine jp_con (pc2 := 11) (v := .int 7) rfl rfl rfl ?_
  refine jp_store (pc2 := 13) (n := 7) rfl rfl ⟨rfl, rfl⟩ rfl (Nat.le_of_ble_eq_true rfl) ?_
  exact K
theorem b9_13 {r_0 : Nat} {y_1 : Int64} {o_2 : Option Value} {y_3 : Int64} {o_4 : Option Value} {x_5 : Int32} {x_6 : Int32} {x_7 : Int32} {o_8 : Option Value}  (K1 : x_7 < 0 → ip sc call 9 MC MS Q 48 [some (.ref r_0), some (.long y_1), o_2, some (.long y_3), o_4, some (.int x_5), some (.int x_6), some (.int x_7), o_8] [] h z c s) (K2 : ¬ (x_7 < 0) → ip sc call 9 MC MS Q 18 [some (.ref r_0), some (.long y_1), o_2, some (.long y_3), o_4, some (.int x_5), some (.int x_6), some (.int x_7), o_8] [] h z c s) : ip sc call 9 MC MS Q 13 [some (.ref r_0), some (.long y_1), o_2, some (.long y_3), o_4, some (.int x_5), some (.int x_6), some (.int x_7), o_8] [] h z c s := by
  refine jp_load (pc2 := 15) (n := 7) rfl rfl rfl rfl ?_
  exact jp_if0 (pc2 := 18) rfl rfl K1 K2
theorem b9_18 {r_0 : Nat} {y_1 : Int64} {o_2 : Option Value} {y_3 : Int64} {o_4 : Option Value} {x_5 : Int32} {x_6 : Int32} {x_7 : Int32} {o_8 : Option Value} {fs1 : List Value} {P : ipQ} (e2 : h r_0 = some (.inr (1, fs1))) (m3 : c ≤ MC) (m4 : s ≤ MS) (hc : call 7 [(.ref r_0), (.long y_1), (.long y_3), (.int x_7)] h z 0 0 P) (K : ∀ (o : Option Value) (h2 : HP) (z2 : Nat), P o h2 z2 → ip sc call 9 MC MS Q 26 [some (.ref r_0), some (.long y_1), o_2, some (.long y_3), o_4, some (.int x_5), some (.int x_6), some (.int x_7), o_8] (o.toList ++ []) h2 z2 c s) : ip sc call 9 MC MS Q 18 [some (.ref r_0), some (.long y_1), o_2, some (.long y_3), o_4, some (.int x_5), some (.int x_6), some (.int x_7), o_8] [] h z c s := by
  refine jp_load (pc2 := 19) (n := 0) rfl rfl rfl rfl ?_
  refine jp_load (pc2 := 20) (n := 1) rfl rfl rfl rfl ?_
  refine jp_load (pc2 := 21) (n := 3) rfl rfl rfl rfl ?_
  refine jp_load (pc2 := 23) (n := 7) rfl rfl rfl rfl ?_
  exact jp_virt0 (pc2 := 26) (As := [(.long y_1), (.long y_3), (.int x_7)]) (rest := []) rfl rfl rfl (Nat.le_of_ble_eq_true rfl) e2 m3 m4 hc rfl K
theorem b9_26 {r_0 : Nat} {y_1 : Int64} {o_2 : Option Value} {y_3 : Int64} {o_4 : Option Value} {x_5 : Int32} {x_6 : Int32} {x_7 : Int32} {o_8 : Option Value} {sx_0 : Int32} {fs1 : List Value} {q_fs1_2 : Nat} {n4 : Nat} {f5 : Nat → Int32} (e2 : h r_0 = some (.inr (1, fs1))) (e3 : fs1[2]? = some (.ref q_fs1_2)) (e6 : h q_fs1_2 = some (.inl (2, n4, .inl f5))) (b7 : vp_in sx_0 n4) (K1 : ¬ (f5 sx_0.toNatClampNeg) = 0 → ip sc call 9 MC MS Q 42 [some (.ref r_0), some (.long y_1), o_2, some (.long y_3), o_4, some (.int x_5), some (.int x_6), some (.int x_7), some (.int sx_0)] [] h z c s) (K2 : ¬ (¬ (f5 sx_0.toNatClampNeg) = 0) → ip sc call 9 MC MS Q 38 [some (.ref r_0), some (.long y_1), o_2, some (.long y_3), o_4, some (.int x_5), some (.int x_6), some (.int x_7), some (.int sx_0)] [] h z c s) : ip sc call 9 MC MS Q 26 [some (.ref r_0), some (.long y_1), o_2, some (.long y_3), o_4, some (.int x_5), some (.int x_6), some (.int x_7), o_8] [(.int sx_0)] h z c s := by
  refine jp_store (pc2 := 28) (n := 8) rfl rfl ⟨rfl, rfl⟩ rfl (Nat.le_of_ble_eq_true rfl) ?_
  refine jp_load (pc2 := 29) (n := 0) rfl rfl rfl rfl ?_
  refine jp_getf (pc2 := 32) rfl rfl e2 e3 ?_
  refine jp_load (pc2 := 34) (n := 8) rfl rfl rfl rfl ?_
  refine jp_bald (pc2 := 35) rfl rfl e6 (by decide) b7 ?_
  exact jp_if0 (pc2 := 38) rfl rfl K1 K2
theorem b9_38 {r_0 : Nat} {y_1 : Int64} {o_2 : Option Value} {y_3 : Int64} {o_4 : Option Value} {x_5 : Int32} {o_6 : Option Value} {x_7 : Int32} {x_8 : Int32}  (K : ip sc call 9 MC MS Q 42 [some (.ref r_0), some (.long y_1), o_2, some (.long y_3), o_4, some (.int x_5), some (.int x_8), some (.int x_7), some (.int x_8)] [] h z c s) : ip sc call 9 MC MS Q 38 [some (.ref r_0), some (.long y_1), o_2, some (.long y_3), o_4, some (.int x_5), o_6, some (.int x_7), some (.int x_8)] [] h z c s := by
  refine jp_load (pc2 := 40) (n := 8) rfl rfl rfl rfl ?_
  refine jp_store (pc2 := 42) (n := 6) rfl rfl ⟨rfl, rfl⟩ rfl (Nat.le_of_ble_eq_true rfl) ?_
  exact K
theorem b9_42 {r_0 : Nat} {y_1 : Int64} {o_2 : Option Value} {y_3 : Int64} {o_4 : Option Value} {x_5 : Int32} {x_6 : Int32} {x_7 : Int32} {o_8 : Option Value}  (K : ip sc call 9 MC MS Q 13 [some (.ref r_0), some (.long y_1), o_2, some (.long y_3), o_4, some (.int x_5), some (.int x_6), some (.int (x_7 + (-1))), o_8] [] h z c s) : ip sc call 9 MC MS Q 42 [some (.ref r_0), some (.long y_1), o_2, some (.long y_3), o_4, some (.int x_5), some (.int x_6), some (.int x_7), o_8] [] h z c s := by
  refine jp_iinc (pc2 := 45) (n := 7) (v := x_7 + (-1)) rfl rfl rfl rfl rfl ?_
  refine ip_goto rfl ?_
  exact K
theorem b9_48 {r_0 : Nat} {y_1 : Int64} {o_2 : Option Value} {y_3 : Int64} {o_4 : Option Value} {x_5 : Int32} {x_6 : Int32} {o_7 : Option Value} {o_8 : Option Value} {fs1 : List Value} {q_fs1_0 : Nat} {n4 : Nat} {f5 : Nat → Int64} {q_fs1_1 : Nat} {n10 : Nat} {f11 : Nat → Int64} {q_fs1_2 : Nat} {n17 : Nat} {f18 : Nat → Int32} (e2 : h r_0 = some (.inr (1, fs1))) (e3 : fs1[0]? = some (.ref q_fs1_0)) (e6 : h q_fs1_0 = some (.inl (1, n4, .inr (.inl f5)))) (b7 : vp_in x_6 n4) (n8 : r_0 ≠ q_fs1_0) (e9 : fs1[1]? = some (.ref q_fs1_1)) (e12 : h q_fs1_1 = some (.inl (1, n10, .inr (.inl f11)))) (n13 : q_fs1_1 ≠ q_fs1_0) (b14 : vp_in x_6 n10) (n15 : r_0 ≠ q_fs1_1) (e16 : fs1[2]? = some (.ref q_fs1_2)) (e19 : h q_fs1_2 = some (.inl (2, n17, .inl f18))) (n20 : q_fs1_2 ≠ q_fs1_0) (n21 : q_fs1_2 ≠ q_fs1_1) (b22 : vp_in x_6 n17) (q23 : Q none (hup (hup (hup h q_fs1_0 (.inl (1, n4, .inr (.inl (vp_updL f5 x_6.toNatClampNeg y_1))))) q_fs1_1 (.inl (1, n10, .inr (.inl (vp_updL f11 x_6.toNatClampNeg y_3))))) q_fs1_2 (.inl (2, n17, .inl (upd f18 x_6.toNatClampNeg (vp_nar .byte ((x_5 + 1).toInt8.toInt32)))))) z)  : ip sc call 9 MC MS Q 48 [some (.ref r_0), some (.long y_1), o_2, some (.long y_3), o_4, some (.int x_5), some (.int x_6), o_7, o_8] [] h z c s := by
  refine jp_load (pc2 := 49) (n := 0) rfl rfl rfl rfl ?_
  refine jp_getf (pc2 := 52) rfl rfl e2 e3 ?_
  refine jp_load (pc2 := 54) (n := 6) rfl rfl rfl rfl ?_
  refine jp_load (pc2 := 55) (n := 1) rfl rfl rfl rfl ?_
  refine jp_last (pc2 := 56) rfl rfl e6 b7 ?_
  refine jp_load (pc2 := 57) (n := 0) rfl rfl rfl rfl ?_
  refine jp_getf (pc2 := 60) rfl rfl (hup_ne n8 e2) e9 ?_
  refine jp_load (pc2 := 62) (n := 6) rfl rfl rfl rfl ?_
  refine jp_load (pc2 := 63) (n := 3) rfl rfl rfl rfl ?_
  refine jp_last (pc2 := 64) rfl rfl (hup_ne n13 e12) b14 ?_
  refine jp_load (pc2 := 65) (n := 0) rfl rfl rfl rfl ?_
  refine jp_getf (pc2 := 68) rfl rfl (hup_ne n15 (hup_ne n8 e2)) e16 ?_
  refine jp_load (pc2 := 70) (n := 6) rfl rfl rfl rfl ?_
  refine jp_load (pc2 := 72) (n := 5) rfl rfl rfl rfl ?_
  refine jp_con (pc2 := 73) (v := .int 1) rfl rfl rfl ?_
  refine jp_bin (pc2 := 74) (v := x_5 + 1) rfl rfl rfl ?_
  refine jp_cv (pc2 := 75) (v := (.int ((x_5 + 1).toInt8.toInt32))) rfl rfl rfl ?_
  refine jp_bast (pc2 := 76) rfl rfl (hup_ne n21 (hup_ne n20 e19)) b22 ?_
  exact ip_vret (st := []) rfl rfl q23
theorem b10_0 {r_0 : Nat} (q1 : Q none h z)  : ip sc call 10 MC MS Q 0 [some (.ref r_0)] [] h z c s := by
  refine jp_load (pc2 := 1) (n := 0) rfl rfl rfl rfl ?_
  refine jp_objinit (pc2 := 4) rfl rfl (Nat.le_of_ble_eq_true rfl) ?_
  exact ip_vret (st := []) rfl rfl q1
theorem b11_0 {r_0 : Nat} {fs1 : List Value} (e2 : h r_0 = some (.inr (2, fs1))) (l3 : fs1.length = 6) (q4 : Q none (hup (hup (hup (hup (hup (hup h r_0 (.inr (2, (fs1.set 0 (.int 0))))) r_0 (.inr (2, ((fs1.set 0 (.int 0)).set 1 (.int 0))))) r_0 (.inr (2, (((fs1.set 0 (.int 0)).set 1 (.int 0)).set 2 (.int 0))))) r_0 (.inr (2, ((((fs1.set 0 (.int 0)).set 1 (.int 0)).set 2 (.int 0)).set 3 (.int 0))))) r_0 (.inr (2, (((((fs1.set 0 (.int 0)).set 1 (.int 0)).set 2 (.int 0)).set 3 (.int 0)).set 4 (.int ((-1))))))) r_0 (.inr (2, ((((((fs1.set 0 (.int 0)).set 1 (.int 0)).set 2 (.int 0)).set 3 (.int 0)).set 4 (.int ((-1)))).set 5 (.int 0))))) z)  : ip sc call 11 MC MS Q 0 [some (.ref r_0)] [] h z c s := by
  refine jp_load (pc2 := 1) (n := 0) rfl rfl rfl rfl ?_
  refine jp_con (pc2 := 2) (v := .int 0) rfl rfl rfl ?_
  refine jp_putf (pc2 := 5) rfl rfl e2 (ln_lt l3 (by decide)) ⟨rfl, rfl⟩ ?_
  refine jp_load (pc2 := 6) (n := 0) rfl rfl rfl rfl ?_
  refine jp_con (pc2 := 7) (v := .int 0) rfl rfl rfl ?_
  refine jp_putf (pc2 := 10) rfl rfl hup_eq (ls_lt (ln_lt l3 (by decide))) ⟨rfl, rfl⟩ ?_
  refine jp_load (pc2 := 11) (n := 0) rfl rfl rfl rfl ?_
  refine jp_con (pc2 := 12) (v := .int 0) rfl rfl rfl ?_
  refine jp_putf (pc2 := 15) rfl rfl hup_eq (ls_lt (ls_lt (ln_lt l3 (by decide)))) ⟨rfl, rfl⟩ ?_
  refine jp_load (pc2 := 16) (n := 0) rfl rfl rfl rfl ?_
  refine jp_con (pc2 := 17) (v := .int 0) rfl rfl rfl ?_
  refine jp_putf (pc2 := 20) rfl rfl hup_eq (ls_lt (ls_lt (ls_lt (ln_lt l3 (by decide))))) ⟨rfl, rfl⟩ ?_
  refine jp_load (pc2 := 21) (n := 0) rfl rfl rfl rfl ?_
  refine jp_con (pc2 := 22) (v := .int (-1)) rfl rfl rfl ?_
  refine jp_putf (pc2 := 25) rfl rfl hup_eq (ls_lt (ls_lt (ls_lt (ls_lt (ln_lt l3 (by decide)))))) ⟨rfl, rfl⟩ ?_
  refine jp_load (pc2 := 26) (n := 0) rfl rfl rfl rfl ?_
  refine jp_con (pc2 := 27) (v := .int 0) rfl rfl rfl ?_
  refine jp_putf (pc2 := 30) rfl rfl hup_eq (ls_lt (ls_lt (ls_lt (ls_lt (ls_lt (ln_lt l3 (by decide))))))) ⟨rfl, rfl⟩ ?_
  exact ip_vret (st := []) rfl rfl q4
theorem b12_0 {r_0 : Nat} {r_1 : Nat} {fs1 : List Value} {v_fs1_0 : Int32} {fs4 : List Value} {v_fs1_1 : Int32} {v_fs1_2 : Int32} {v_fs1_3 : Int32} {v_fs1_4 : Int32} {v_fs1_5 : Int32} (e2 : h r_1 = some (.inr (2, fs1))) (e3 : fs1[0]? = some (.int v_fs1_0)) (e5 : h r_0 = some (.inr (2, fs4))) (l6 : fs4.length = 6) (n7 : r_1 ≠ r_0) (e8 : fs1[1]? = some (.int v_fs1_1)) (e9 : fs1[2]? = some (.int v_fs1_2)) (e10 : fs1[3]? = some (.int v_fs1_3)) (e11 : fs1[4]? = some (.int v_fs1_4)) (e12 : fs1[5]? = some (.int v_fs1_5)) (q13 : Q none (hup (hup (hup (hup (hup (hup h r_0 (.inr (2, (fs4.set 0 (.int v_fs1_0))))) r_0 (.inr (2, ((fs4.set 0 (.int v_fs1_0)).set 1 (.int v_fs1_1))))) r_0 (.inr (2, (((fs4.set 0 (.int v_fs1_0)).set 1 (.int v_fs1_1)).set 2 (.int v_fs1_2))))) r_0 (.inr (2, ((((fs4.set 0 (.int v_fs1_0)).set 1 (.int v_fs1_1)).set 2 (.int v_fs1_2)).set 3 (.int v_fs1_3))))) r_0 (.inr (2, (((((fs4.set 0 (.int v_fs1_0)).set 1 (.int v_fs1_1)).set 2 (.int v_fs1_2)).set 3 (.int v_fs1_3)).set 4 (.int v_fs1_4))))) r_0 (.inr (2, ((((((fs4.set 0 (.int v_fs1_0)).set 1 (.int v_fs1_1)).set 2 (.int v_fs1_2)).set 3 (.int v_fs1_3)).set 4 (.int v_fs1_4)).set 5 (.int v_fs1_5))))) z)  : ip sc call 12 MC MS Q 0 [some (.ref r_0), some (.ref r_1)] [] h z c s := by
  refine jp_load (pc2 := 1) (n := 0) rfl rfl rfl rfl ?_
  refine jp_load (pc2 := 2) (n := 1) rfl rfl rfl rfl ?_
  refine jp_getf (pc2 := 5) rfl rfl e2 e3 ?_
  refine jp_putf (pc2 := 8) rfl rfl e5 (ln_lt l6 (by decide)) ⟨rfl, rfl⟩ ?_
  refine jp_load (pc2 := 9) (n := 0) rfl rfl rfl rfl ?_
  refine jp_load (pc2 := 10) (n := 1) rfl rfl rfl rfl ?_
  refine jp_getf (pc2 := 13) rfl rfl (hup_ne n7 e2) e8 ?_
  refine jp_putf (pc2 := 16) rfl rfl hup_eq (ls_lt (ln_lt l6 (by decide))) ⟨rfl, rfl⟩ ?_
  refine jp_load (pc2 := 17) (n := 0) rfl rfl rfl rfl ?_
  refine jp_load (pc2 := 18) (n := 1) rfl rfl rfl rfl ?_
  refine jp_getf (pc2 := 21) rfl rfl (hup_ne n7 (hup_ne n7 e2)) e9 ?_
  refine jp_putf (pc2 := 24) rfl rfl hup_eq (ls_lt (ls_lt (ln_lt l6 (by decide)))) ⟨rfl, rfl⟩ ?_
  refine jp_load (pc2 := 25) (n := 0) rfl rfl rfl rfl ?_
  refine jp_load (pc2 := 26) (n := 1) rfl rfl rfl rfl ?_
  refine jp_getf (pc2 := 29) rfl rfl (hup_ne n7 (hup_ne n7 (hup_ne n7 e2))) e10 ?_
  refine jp_putf (pc2 := 32) rfl rfl hup_eq (ls_lt (ls_lt (ls_lt (ln_lt l6 (by decide))))) ⟨rfl, rfl⟩ ?_
  refine jp_load (pc2 := 33) (n := 0) rfl rfl rfl rfl ?_
  refine jp_load (pc2 := 34) (n := 1) rfl rfl rfl rfl ?_
  refine jp_getf (pc2 := 37) rfl rfl (hup_ne n7 (hup_ne n7 (hup_ne n7 (hup_ne n7 e2)))) e11 ?_
  refine jp_putf (pc2 := 40) rfl rfl hup_eq (ls_lt (ls_lt (ls_lt (ls_lt (ln_lt l6 (by decide)))))) ⟨rfl, rfl⟩ ?_
  refine jp_load (pc2 := 41) (n := 0) rfl rfl rfl rfl ?_
  refine jp_load (pc2 := 42) (n := 1) rfl rfl rfl rfl ?_
  refine jp_getf (pc2 := 45) rfl rfl (hup_ne n7 (hup_ne n7 (hup_ne n7 (hup_ne n7 (hup_ne n7 e2))))) e12 ?_
  refine jp_putf (pc2 := 48) rfl rfl hup_eq (ls_lt (ls_lt (ls_lt (ls_lt (ls_lt (ln_lt l6 (by decide))))))) ⟨rfl, rfl⟩ ?_
  exact ip_vret (st := []) rfl rfl q13
theorem b13_0 {r_0 : Nat} {x_1 : Int32} {tgt : Nat} (t1 : ipTab 1 69 0 5 #[39, 44, 49, 54, 59, 64] x_1 = some tgt) (K : ip sc call 13 MC MS Q tgt [some (.ref r_0), some (.int x_1)] [] h z c s) : ip sc call 13 MC MS Q 0 [some (.ref r_0), some (.int x_1)] [] h z c s := by
  refine jp_load (pc2 := 1) (n := 1) rfl rfl rfl rfl ?_
  exact ip_tab rfl t1 K
theorem b13_40 {r_0 : Nat} {o_1 : Option Value} {fs1 : List Value} {v_fs1_0 : Int32} (e2 : h r_0 = some (.inr (2, fs1))) (e3 : fs1[0]? = some (.int v_fs1_0)) (q4 : Q (some (.int v_fs1_0)) h z)  : ip sc call 13 MC MS Q 40 [some (.ref r_0), o_1] [] h z c s := by
  refine jp_load (pc2 := 41) (n := 0) rfl rfl rfl rfl ?_
  refine jp_getf (pc2 := 44) rfl rfl e2 e3 ?_
  exact ip_iret (st := []) rfl rfl rfl q4
theorem b13_45 {r_0 : Nat} {o_1 : Option Value} {fs1 : List Value} {v_fs1_1 : Int32} (e2 : h r_0 = some (.inr (2, fs1))) (e3 : fs1[1]? = some (.int v_fs1_1)) (q4 : Q (some (.int v_fs1_1)) h z)  : ip sc call 13 MC MS Q 45 [some (.ref r_0), o_1] [] h z c s := by
  refine jp_load (pc2 := 46) (n := 0) rfl rfl rfl rfl ?_
  refine jp_getf (pc2 := 49) rfl rfl e2 e3 ?_
  exact ip_iret (st := []) rfl rfl rfl q4
theorem b13_50 {r_0 : Nat} {o_1 : Option Value} {fs1 : List Value} {v_fs1_2 : Int32} (e2 : h r_0 = some (.inr (2, fs1))) (e3 : fs1[2]? = some (.int v_fs1_2)) (q4 : Q (some (.int v_fs1_2)) h z)  : ip sc call 13 MC MS Q 50 [some (.ref r_0), o_1] [] h z c s := by
  refine jp_load (pc2 := 51) (n := 0) rfl rfl rfl rfl ?_
  refine jp_getf (pc2 := 54) rfl rfl e2 e3 ?_
  exact ip_iret (st := []) rfl rfl rfl q4
theorem b13_55 {r_0 : Nat} {o_1 : Option Value} {fs1 : List Value} {v_fs1_3 : Int32} (e2 : h r_0 = some (.inr (2, fs1))) (e3 : fs1[3]? = some (.int v_fs1_3)) (q4 : Q (some (.int v_fs1_3)) h z)  : ip sc call 13 MC MS Q 55 [some (.ref r_0), o_1] [] h z c s := by
  refine jp_load (pc2 := 56) (n := 0) rfl rfl rfl rfl ?_
  refine jp_getf (pc2 := 59) rfl rfl e2 e3 ?_
  exact ip_iret (st := []) rfl rfl rfl q4
theorem b13_60 {r_0 : Nat} {o_1 : Option Value} {fs1 : List Value} {v_fs1_4 : Int32} (e2 : h r_0 = some (.inr (2, fs1))) (e3 : fs1[4]? = some (.int v_fs1_4)) (q4 : Q (some (.int v_fs1_4)) h z)  : ip sc call 13 MC MS Q 60 [some (.ref r_0), o_1] [] h z c s := by
  refine jp_load (pc2 := 61) (n := 0) rfl rfl rfl rfl ?_
  refine jp_getf (pc2 := 64) rfl rfl e2 e3 ?_
  exact ip_iret (st := []) rfl rfl rfl q4
theorem b13_65 {r_0 : Nat} {o_1 : Option Value} {fs1 : List Value} {v_fs1_5 : Int32} (e2 : h r_0 = some (.inr (2, fs1))) (e3 : fs1[5]? = some (.int v_fs1_5)) (q4 : Q (some (.int v_fs1_5)) h z)  : ip sc call 13 MC MS Q 65 [some (.ref r_0), o_1] [] h z c s := by
  refine jp_load (pc2 := 66) (n := 0) rfl rfl rfl rfl ?_
  refine jp_getf (pc2 := 69) rfl rfl e2 e3 ?_
  exact ip_iret (st := []) rfl rfl rfl q4
theorem b13_70 {o_0 : Option Value} {o_1 : Option Value} (q1 : Q (some (.int ((-1)))) h z)  : ip sc call 13 MC MS Q 70 [o_0, o_1] [] h z c s := by
  refine jp_con (pc2 := 71) (v := .int (-1)) rfl rfl rfl ?_
  exact ip_iret (st := []) rfl rfl rfl q1
theorem b27_0 {r_0 : Nat} {o_1 : Option Value} {fs3 : List Value} (m1 : c + 1 ≤ MC) (m2 : s + 23 ≤ MS) (e4 : h r_0 = some (.inr (4, fs3))) (n5 : r_0 ≠ z) (l6 : fs3.length = 3) (K : ip sc call 27 MC MS Q 15 [some (.ref r_0), some (.int 0)] [] (hup (hup h z (.inl (4, 23, .inr (.inr (.inr (.inr (fun _ => none))))))) r_0 (.inr (4, (fs3.set 0 (.ref z))))) (z + 1) (c + 1) (s + 23)) : ip sc call 27 MC MS Q 0 [some (.ref r_0), o_1] [] h z c s := by
  refine jp_load (pc2 := 1) (n := 0) rfl rfl rfl rfl ?_
  refine jp_objinit (pc2 := 4) rfl rfl (Nat.le_of_ble_eq_true rfl) ?_
  refine jp_load (pc2 := 5) (n := 0) rfl rfl rfl rfl ?_
  refine jp_con (pc2 := 7) (v := .int 23) rfl rfl rfl ?_
  refine jp_newq (pc2 := 10) (N := 23) rfl rfl (by decide) (by decide) (by decide) m1 m2 ?_
  refine jp_putf (pc2 := 13) rfl rfl (hup_ne n5 e4) (ln_lt l6 (by decide)) ⟨rfl, rfl⟩ ?_
  refine jp_con (pc2 := 14) (v := .int 0) rfl rfl rfl ?_
  refine jp_store (pc2 := 15) (n := 1) rfl rfl ⟨rfl, rfl⟩ rfl (Nat.le_of_ble_eq_true rfl) ?_
  exact K
theorem b27_15 {r_0 : Nat} {x_1 : Int32}  (K1 : (23 : Int32) ≤ x_1 → ip sc call 27 MC MS Q 40 [some (.ref r_0), some (.int x_1)] [] h z c s) (K2 : ¬ ((23 : Int32) ≤ x_1) → ip sc call 27 MC MS Q 21 [some (.ref r_0), some (.int x_1)] [] h z c s) : ip sc call 27 MC MS Q 15 [some (.ref r_0), some (.int x_1)] [] h z c s := by
  refine jp_load (pc2 := 16) (n := 1) rfl rfl rfl rfl ?_
  refine jp_con (pc2 := 18) (v := .int 23) rfl rfl rfl ?_
  exact jp_icmp (pc2 := 21) rfl rfl K1 K2
theorem b27_21g {r_0 : Nat} {x_1 : Int32} {fs1 : List Value} {q_fs1_0 : Nat} {P : ipQ} {mc ms : Nat} (e2 : h r_0 = some (.inr (4, fs1))) (e3 : fs1[0]? = some (.ref q_fs1_0)) (m4 : c + 1 ≤ MC) (m5 : s + 6 ≤ MS) (m6 : c + 1 + mc ≤ MC) (m7 : s + 6 + ms ≤ MS) (hc : call 10 [(.ref z)] (hup h z (.inr (2, (ipDef 2)))) (z + 1) mc ms P) (K : ∀ (o : Option Value) (h2 : HP) (z2 : Nat), P o h2 z2 → ip sc call 27 MC MS Q 33 [some (.ref r_0), some (.int x_1)] (o.toList ++ [(.ref z), (.int x_1), (.ref q_fs1_0)]) h2 z2 (c + 1 + mc) (s + 6 + ms)) : ip sc call 27 MC MS Q 21 [some (.ref r_0), some (.int x_1)] [] h z c s := by
  refine jp_load (pc2 := 22) (n := 0) rfl rfl rfl rfl ?_
  refine jp_getf (pc2 := 25) rfl rfl e2 e3 ?_
  refine jp_load (pc2 := 26) (n := 1) rfl rfl rfl rfl ?_
  refine jp_new (pc2 := 29) (N := 6) rfl rfl rfl m4 m5 ?_
  refine jp_dup (pc2 := 30) rfl rfl rfl ?_
  exact jp_spec (pc2 := 33) (As := []) (rest := [(.ref z), (.int x_1), (.ref q_fs1_0)]) rfl rfl rfl (Nat.le_of_ble_eq_true rfl) m6 m7 (by decide) hc rfl K
theorem b27_33 {r_0 : Nat} {x_1 : Int32} {sr_0 : Nat} {sx_1 : Int32} {sr_2 : Nat} {n1 : Nat} {f2 : Nat → Option Nat} {fs5 : List Value} (e3 : h sr_0 = some (.inl (4, n1, .inr (.inr (.inr (.inr f2)))))) (b4 : vp_in sx_1 n1) (e6 : h sr_2 = some (.inr (2, fs5))) (K : ip sc call 27 MC MS Q 15 [some (.ref r_0), some (.int (x_1 + 1))] [] (hup h sr_0 (.inl (4, n1, .inr (.inr (.inr (.inr (va_up f2 sx_1.toNatClampNeg (some sr_2)))))))) z c s) : ip sc call 27 MC MS Q 33 [some (.ref r_0), some (.int x_1)] [(.ref sr_2), (.int sx_1), (.ref sr_0)] h z c s := by
  refine jp_aast (pc2 := 34) rfl rfl e3 (by decide) e6 b4 ?_
  refine jp_iinc (pc2 := 37) (n := 1) (v := x_1 + 1) rfl rfl rfl rfl rfl ?_
  refine ip_goto rfl ?_
  exact K
theorem b27_40 {o_0 : Option Value} {o_1 : Option Value} (q1 : Q none h z)  : ip sc call 27 MC MS Q 40 [o_0, o_1] [] h z c s := by
  exact ip_vret (st := []) rfl rfl q1
theorem b28_0 {r_0 : Nat} {r_1 : Nat} {o_2 : Option Value} {fs1 : List Value} {v_fs1_1 : Int32} {fs4 : List Value} {v_fs1_2 : Int32} (e2 : h r_1 = some (.inr (4, fs1))) (e3 : fs1[1]? = some (.int v_fs1_1)) (e5 : h r_0 = some (.inr (4, fs4))) (l6 : fs4.length = 3) (n7 : r_1 ≠ r_0) (e8 : fs1[2]? = some (.int v_fs1_2)) (K : ip sc call 28 MC MS Q 18 [some (.ref r_0), some (.ref r_1), some (.int 0)] [] (hup (hup h r_0 (.inr (4, (fs4.set 1 (.int v_fs1_1))))) r_0 (.inr (4, ((fs4.set 1 (.int v_fs1_1)).set 2 (.int v_fs1_2))))) z c s) : ip sc call 28 MC MS Q 0 [some (.ref r_0), some (.ref r_1), o_2] [] h z c s := by
  refine jp_load (pc2 := 1) (n := 0) rfl rfl rfl rfl ?_
  refine jp_load (pc2 := 2) (n := 1) rfl rfl rfl rfl ?_
  refine jp_getf (pc2 := 5) rfl rfl e2 e3 ?_
  refine jp_putf (pc2 := 8) rfl rfl e5 (ln_lt l6 (by decide)) ⟨rfl, rfl⟩ ?_
  refine jp_load (pc2 := 9) (n := 0) rfl rfl rfl rfl ?_
  refine jp_load (pc2 := 10) (n := 1) rfl rfl rfl rfl ?_
  refine jp_getf (pc2 := 13) rfl rfl (hup_ne n7 e2) e8 ?_
  refine jp_putf (pc2 := 16) rfl rfl hup_eq (ls_lt (ln_lt l6 (by decide))) ⟨rfl, rfl⟩ ?_
  refine jp_con (pc2 := 17) (v := .int 0) rfl rfl rfl ?_
  refine jp_store (pc2 := 18) (n := 2) rfl rfl ⟨rfl, rfl⟩ rfl (Nat.le_of_ble_eq_true rfl) ?_
  exact K
theorem b28_18 {r_0 : Nat} {r_1 : Nat} {x_2 : Int32} {fs1 : List Value} {v_fs1_2 : Int32} (e2 : h r_0 = some (.inr (4, fs1))) (e3 : fs1[2]? = some (.int v_fs1_2)) (K1 : v_fs1_2 ≤ x_2 → ip sc call 28 MC MS Q 47 [some (.ref r_0), some (.ref r_1), some (.int x_2)] [] h z c s) (K2 : ¬ (v_fs1_2 ≤ x_2) → ip sc call 28 MC MS Q 26 [some (.ref r_0), some (.ref r_1), some (.int x_2)] [] h z c s) : ip sc call 28 MC MS Q 18 [some (.ref r_0), some (.ref r_1), some (.int x_2)] [] h z c s := by
  refine jp_load (pc2 := 19) (n := 2) rfl rfl rfl rfl ?_
  refine jp_load (pc2 := 20) (n := 0) rfl rfl rfl rfl ?_
  refine jp_getf (pc2 := 23) rfl rfl e2 e3 ?_
  exact jp_icmp (pc2 := 26) rfl rfl K1 K2
theorem b28_26 {r_0 : Nat} {r_1 : Nat} {x_2 : Int32} {fs1 : List Value} {q_fs1_0 : Nat} {n4 : Nat} {f5 : Nat → Option Nat} {q8 : Nat} {fs10 : List Value} {q_fs10_0 : Nat} {n13 : Nat} {f14 : Nat → Option Nat} {q17 : Nat} {fs19 : List Value} {P : ipQ} (e2 : h r_0 = some (.inr (4, fs1))) (e3 : fs1[0]? = some (.ref q_fs1_0)) (e6 : h q_fs1_0 = some (.inl (4, n4, .inr (.inr (.inr (.inr f5)))))) (b7 : vp_in x_2 n4) (e9 : f5 x_2.toNatClampNeg = some q8) (e11 : h r_1 = some (.inr (4, fs10))) (e12 : fs10[0]? = some (.ref q_fs10_0)) (e15 : h q_fs10_0 = some (.inl (4, n13, .inr (.inr (.inr (.inr f14)))))) (b16 : vp_in x_2 n13) (e18 : f14 x_2.toNatClampNeg = some q17) (e20 : h q8 = some (.inr (2, fs19))) (m21 : c ≤ MC) (m22 : s ≤ MS) (hc : call 12 [(.ref q8), (.ref q17)] h z 0 0 P) (K : ∀ (o : Option Value) (h2 : HP) (z2 : Nat), P o h2 z2 → ip sc call 28 MC MS Q 41 [some (.ref r_0), some (.ref r_1), some (.int x_2)] (o.toList ++ []) h2 z2 c s) : ip sc call 28 MC MS Q 26 [some (.ref r_0), some (.ref r_1), some (.int x_2)] [] h z c s := by
  refine jp_load (pc2 := 27) (n := 0) rfl rfl rfl rfl ?_
  refine jp_getf (pc2 := 30) rfl rfl e2 e3 ?_
  refine jp_load (pc2 := 31) (n := 2) rfl rfl rfl rfl ?_
  refine jp_aald (pc2 := 32) rfl rfl e6 (by decide) b7 e9 ?_
  refine jp_load (pc2 := 33) (n := 1) rfl rfl rfl rfl ?_
  refine jp_getf (pc2 := 36) rfl rfl e11 e12 ?_
  refine jp_load (pc2 := 37) (n := 2) rfl rfl rfl rfl ?_
  refine jp_aald (pc2 := 38) rfl rfl e15 (by decide) b16 e18 ?_
  exact jp_virt0 (pc2 := 41) (As := [(.ref q17)]) (rest := []) rfl rfl rfl (Nat.le_of_ble_eq_true rfl) e20 m21 m22 hc rfl K
theorem b28_41 {r_0 : Nat} {r_1 : Nat} {x_2 : Int32}  (K : ip sc call 28 MC MS Q 18 [some (.ref r_0), some (.ref r_1), some (.int (x_2 + 1))] [] h z c s) : ip sc call 28 MC MS Q 41 [some (.ref r_0), some (.ref r_1), some (.int x_2)] [] h z c s := by
  refine jp_iinc (pc2 := 44) (n := 2) (v := x_2 + 1) rfl rfl rfl rfl rfl ?_
  refine ip_goto rfl ?_
  exact K
theorem b28_47 {o_0 : Option Value} {o_1 : Option Value} {o_2 : Option Value} (q1 : Q none h z)  : ip sc call 28 MC MS Q 47 [o_0, o_1, o_2] [] h z c s := by
  exact ip_vret (st := []) rfl rfl q1
theorem b29_0 {r_0 : Nat} {fs3 : List Value} (m1 : c + 1 ≤ MC) (m2 : s + 31 ≤ MS) (e4 : h r_0 = some (.inr (5, fs3))) (n5 : r_0 ≠ z) (l6 : fs3.length = 5) (m7 : c + 1 + 1 ≤ MC) (m8 : s + 31 + 31 ≤ MS) (n9 : r_0 ≠ z + 1) (m10 : c + 1 + 1 + 1 ≤ MC) (m11 : s + 31 + 31 + 31 ≤ MS) (n12 : r_0 ≠ z + 1 + 1) (m13 : c + 1 + 1 + 1 + 1 ≤ MC) (m14 : s + 31 + 31 + 31 + 24 ≤ MS) (n15 : r_0 ≠ z + 1 + 1 + 1) (q16 : Q none (hup (hup (hup (hup (hup (hup (hup (hup h z (.inl (0, 31, .inl (fun _ => 0)))) r_0 (.inr (5, (fs3.set 0 (.ref z))))) (z + 1) (.inl (0, 31, .inl (fun _ => 0)))) r_0 (.inr (5, ((fs3.set 0 (.ref z)).set 1 (.ref (z + 1)))))) (z + 1 + 1) (.inl (0, 31, .inl (fun _ => 0)))) r_0 (.inr (5, (((fs3.set 0 (.ref z)).set 1 (.ref (z + 1))).set 2 (.ref (z + 1 + 1)))))) (z + 1 + 1 + 1) (.inl (0, 24, .inl (fun _ => 0)))) r_0 (.inr (5, ((((fs3.set 0 (.ref z)).set 1 (.ref (z + 1))).set 2 (.ref (z + 1 + 1))).set 3 (.ref (z + 1 + 1 + 1)))))) (z + 1 + 1 + 1 + 1))  : ip sc call 29 MC MS Q 0 [some (.ref r_0)] [] h z c s := by
  refine jp_load (pc2 := 1) (n := 0) rfl rfl rfl rfl ?_
  refine jp_objinit (pc2 := 4) rfl rfl (Nat.le_of_ble_eq_true rfl) ?_
  refine jp_load (pc2 := 5) (n := 0) rfl rfl rfl rfl ?_
  refine jp_con (pc2 := 7) (v := .int 31) rfl rfl rfl ?_
  refine jp_newa0 (pc2 := 9) (N := 31) rfl rfl (by decide) (by decide) (by decide) m1 m2 ?_
  refine jp_putf (pc2 := 12) rfl rfl (hup_ne n5 e4) (ln_lt l6 (by decide)) ⟨rfl, rfl⟩ ?_
  refine jp_load (pc2 := 13) (n := 0) rfl rfl rfl rfl ?_
  refine jp_con (pc2 := 15) (v := .int 31) rfl rfl rfl ?_
  refine jp_newa0 (pc2 := 17) (N := 31) rfl rfl (by decide) (by decide) (by decide) m7 m8 ?_
  refine jp_putf (pc2 := 20) rfl rfl (hup_ne n9 hup_eq) (ls_lt (ln_lt l6 (by decide))) ⟨rfl, rfl⟩ ?_
  refine jp_load (pc2 := 21) (n := 0) rfl rfl rfl rfl ?_
  refine jp_con (pc2 := 23) (v := .int 31) rfl rfl rfl ?_
  refine jp_newa0 (pc2 := 25) (N := 31) rfl rfl (by decide) (by decide) (by decide) m10 m11 ?_
  refine jp_putf (pc2 := 28) rfl rfl (hup_ne n12 hup_eq) (ls_lt (ls_lt (ln_lt l6 (by decide)))) ⟨rfl, rfl⟩ ?_
  refine jp_load (pc2 := 29) (n := 0) rfl rfl rfl rfl ?_
  refine jp_con (pc2 := 31) (v := .int 24) rfl rfl rfl ?_
  refine jp_newa0 (pc2 := 33) (N := 24) rfl rfl (by decide) (by decide) (by decide) m13 m14 ?_
  refine jp_putf (pc2 := 36) rfl rfl (hup_ne n15 hup_eq) (ls_lt (ls_lt (ls_lt (ln_lt l6 (by decide))))) ⟨rfl, rfl⟩ ?_
  exact ip_vret (st := []) rfl rfl q16
theorem b30_0 {r_0 : Nat} {r_1 : Nat} {o_2 : Option Value} {o_3 : Option Value}  (K : ip sc call 30 MC MS Q 2 [some (.ref r_0), some (.ref r_1), some (.int 0), o_3] [] h z c s) : ip sc call 30 MC MS Q 0 [some (.ref r_0), some (.ref r_1), o_2, o_3] [] h z c s := by
  refine jp_con (pc2 := 1) (v := .int 0) rfl rfl rfl ?_
  refine jp_store (pc2 := 2) (n := 2) rfl rfl ⟨rfl, rfl⟩ rfl (Nat.le_of_ble_eq_true rfl) ?_
  exact K
theorem b30_2 {r_0 : Nat} {r_1 : Nat} {x_2 : Int32} {o_3 : Option Value} {fs1 : List Value} {v_fs1_8 : Int32} (e2 : h r_1 = some (.inr (6, fs1))) (e3 : fs1[8]? = some (.int v_fs1_8)) (K1 : v_fs1_8 ≤ x_2 → ip sc call 30 MC MS Q 23 [some (.ref r_0), some (.ref r_1), some (.int x_2), o_3] [] h z c s) (K2 : ¬ (v_fs1_8 ≤ x_2) → ip sc call 30 MC MS Q 10 [some (.ref r_0), some (.ref r_1), some (.int x_2), o_3] [] h z c s) : ip sc call 30 MC MS Q 2 [some (.ref r_0), some (.ref r_1), some (.int x_2), o_3] [] h z c s := by
  refine jp_load (pc2 := 3) (n := 2) rfl rfl rfl rfl ?_
  refine jp_load (pc2 := 4) (n := 1) rfl rfl rfl rfl ?_
  refine jp_getf (pc2 := 7) rfl rfl e2 e3 ?_
  exact jp_icmp (pc2 := 10) rfl rfl K1 K2
theorem b30_10 {r_0 : Nat} {r_1 : Nat} {x_2 : Int32} {o_3 : Option Value} {fs1 : List Value} {q_fs1_0 : Nat} {n4 : Nat} {f5 : Nat → Int32} (e2 : h r_0 = some (.inr (5, fs1))) (e3 : fs1[0]? = some (.ref q_fs1_0)) (e6 : h q_fs1_0 = some (.inl (0, n4, .inl f5))) (b7 : vp_in x_2 n4) (K : ip sc call 30 MC MS Q 2 [some (.ref r_0), some (.ref r_1), some (.int (x_2 + 1)), o_3] [] (hup h q_fs1_0 (.inl (0, n4, .inl (upd f5 x_2.toNatClampNeg 0)))) z c s) : ip sc call 30 MC MS Q 10 [some (.ref r_0), some (.ref r_1), some (.int x_2), o_3] [] h z c s := by
  refine jp_load (pc2 := 11) (n := 0) rfl rfl rfl rfl ?_
  refine jp_getf (pc2 := 14) rfl rfl e2 e3 ?_
  refine jp_load (pc2 := 15) (n := 2) rfl rfl rfl rfl ?_
  refine jp_con (pc2 := 16) (v := .int 0) rfl rfl rfl ?_
  refine jp_iast (pc2 := 17) rfl rfl e6 b7 ?_
  refine jp_iinc (pc2 := 20) (n := 2) (v := x_2 + 1) rfl rfl rfl rfl rfl ?_
  refine ip_goto rfl ?_
  exact K
theorem b30_23 {r_0 : Nat} {r_1 : Nat} {o_2 : Option Value} {o_3 : Option Value}  (K : ip sc call 30 MC MS Q 25 [some (.ref r_0), some (.ref r_1), some (.int 0), o_3] [] h z c s) : ip sc call 30 MC MS Q 23 [some (.ref r_0), some (.ref r_1), o_2, o_3] [] h z c s := by
  refine jp_con (pc2 := 24) (v := .int 0) rfl rfl rfl ?_
  refine jp_store (pc2 := 25) (n := 2) rfl rfl ⟨rfl, rfl⟩ rfl (Nat.le_of_ble_eq_true rfl) ?_
  exact K
theorem b30_25 {r_0 : Nat} {r_1 : Nat} {x_2 : Int32} {o_3 : Option Value} {fs1 : List Value} {v_fs1_7 : Int32} (e2 : h r_1 = some (.inr (6, fs1))) (e3 : fs1[7]? = some (.int v_fs1_7)) (K1 : v_fs1_7 ≤ x_2 → ip sc call 30 MC MS Q 94 [some (.ref r_0), some (.ref r_1), some (.int x_2), o_3] [] h z c s) (K2 : ¬ (v_fs1_7 ≤ x_2) → ip sc call 30 MC MS Q 33 [some (.ref r_0), some (.ref r_1), some (.int x_2), o_3] [] h z c s) : ip sc call 30 MC MS Q 25 [some (.ref r_0), some (.ref r_1), some (.int x_2), o_3] [] h z c s := by
  refine jp_load (pc2 := 26) (n := 2) rfl rfl rfl rfl ?_
  refine jp_load (pc2 := 27) (n := 1) rfl rfl rfl rfl ?_
  refine jp_getf (pc2 := 30) rfl rfl e2 e3 ?_
  exact jp_icmp (pc2 := 33) rfl rfl K1 K2
theorem b30_33 {r_0 : Nat} {r_1 : Nat} {x_2 : Int32} {o_3 : Option Value} {fs1 : List Value} {q_fs1_3 : Nat} {n4 : Nat} {f5 : Nat → Int32} {fs8 : List Value} {q_fs8_2 : Nat} {q_fs8_3 : Nat} {n13 : Nat} {f14 : Nat → Int32} {n18 : Nat} {f19 : Nat → Int32} (e2 : h r_0 = some (.inr (5, fs1))) (e3 : fs1[3]? = some (.ref q_fs1_3)) (e6 : h q_fs1_3 = some (.inl (0, n4, .inl f5))) (b7 : vp_in x_2 n4) (e9 : h r_1 = some (.inr (6, fs8))) (n10 : r_1 ≠ q_fs1_3) (e11 : fs8[2]? = some (.ref q_fs8_2)) (e12 : fs8[3]? = some (.ref q_fs8_3)) (e15 : h q_fs8_3 = some (.inl (0, n13, .inl f14))) (n16 : q_fs8_3 ≠ q_fs1_3) (b17 : vp_in x_2 n13) (e20 : h q_fs8_2 = some (.inl (0, n18, .inl f19))) (n21 : q_fs8_2 ≠ q_fs1_3) (b22 : vp_in (f14 x_2.toNatClampNeg) n18) (K : ip sc call 30 MC MS Q 54 [some (.ref r_0), some (.ref r_1), some (.int x_2), some (.int (f19 (f14 x_2.toNatClampNeg).toNatClampNeg))] [] (hup h q_fs1_3 (.inl (0, n4, .inl (upd f5 x_2.toNatClampNeg (1 <<< (x_2 &&& 31)))))) z c s) : ip sc call 30 MC MS Q 33 [some (.ref r_0), some (.ref r_1), some (.int x_2), o_3] [] h z c s := by
  refine jp_load (pc2 := 34) (n := 0) rfl rfl rfl rfl ?_
  refine jp_getf (pc2 := 37) rfl rfl e2 e3 ?_
  refine jp_load (pc2 := 38) (n := 2) rfl rfl rfl rfl ?_
  refine jp_con (pc2 := 39) (v := .int 1) rfl rfl rfl ?_
  refine jp_load (pc2 := 40) (n := 2) rfl rfl rfl rfl ?_
  refine jp_bin (pc2 := 41) (v := 1 <<< (x_2 &&& 31)) rfl rfl rfl ?_
  refine jp_iast (pc2 := 42) rfl rfl e6 b7 ?_
  refine jp_load (pc2 := 43) (n := 1) rfl rfl rfl rfl ?_
  refine jp_getf (pc2 := 46) rfl rfl (hup_ne n10 e9) e11 ?_
  refine jp_load (pc2 := 47) (n := 1) rfl rfl rfl rfl ?_
  refine jp_getf (pc2 := 50) rfl rfl (hup_ne n10 e9) e12 ?_
  refine jp_load (pc2 := 51) (n := 2) rfl rfl rfl rfl ?_
  refine jp_iald (pc2 := 52) rfl rfl (hup_ne n16 e15) b17 ?_
  refine jp_iald (pc2 := 53) rfl rfl (hup_ne n21 e20) b22 ?_
  refine jp_store (pc2 := 54) (n := 3) rfl rfl ⟨rfl, rfl⟩ rfl (Nat.le_of_ble_eq_true rfl) ?_
  exact K
theorem b30_54 {r_0 : Nat} {r_1 : Nat} {x_2 : Int32} {x_3 : Int32} {fs1 : List Value} {q_fs1_2 : Nat} {q_fs1_3 : Nat} {n5 : Nat} {f6 : Nat → Int32} {n9 : Nat} {f10 : Nat → Int32} (e2 : h r_1 = some (.inr (6, fs1))) (e3 : fs1[2]? = some (.ref q_fs1_2)) (e4 : fs1[3]? = some (.ref q_fs1_3)) (e7 : h q_fs1_3 = some (.inl (0, n5, .inl f6))) (b8 : vp_in (x_2 + 1) n5) (e11 : h q_fs1_2 = some (.inl (0, n9, .inl f10))) (b12 : vp_in (f6 (x_2 + 1).toNatClampNeg) n9) (K1 : (f10 (f6 (x_2 + 1).toNatClampNeg).toNatClampNeg) ≤ x_3 → ip sc call 30 MC MS Q 88 [some (.ref r_0), some (.ref r_1), some (.int x_2), some (.int x_3)] [] h z c s) (K2 : ¬ ((f10 (f6 (x_2 + 1).toNatClampNeg).toNatClampNeg) ≤ x_3) → ip sc call 30 MC MS Q 71 [some (.ref r_0), some (.ref r_1), some (.int x_2), some (.int x_3)] [] h z c s) : ip sc call 30 MC MS Q 54 [some (.ref r_0), some (.ref r_1), some (.int x_2), some (.int x_3)] [] h z c s := by
  refine jp_load (pc2 := 55) (n := 3) rfl rfl rfl rfl ?_
  refine jp_load (pc2 := 56) (n := 1) rfl rfl rfl rfl ?_
  refine jp_getf (pc2 := 59) rfl rfl e2 e3 ?_
  refine jp_load (pc2 := 60) (n := 1) rfl rfl rfl rfl ?_
  refine jp_getf (pc2 := 63) rfl rfl e2 e4 ?_
  refine jp_load (pc2 := 64) (n := 2) rfl rfl rfl rfl ?_
  refine jp_con (pc2 := 65) (v := .int 1) rfl rfl rfl ?_
  refine jp_bin (pc2 := 66) (v := x_2 + 1) rfl rfl rfl ?_
  refine jp_iald (pc2 := 67) rfl rfl e7 b8 ?_
  refine jp_iald (pc2 := 68) rfl rfl e11 b12 ?_
  exact jp_icmp (pc2 := 71) rfl rfl K1 K2
theorem b30_71 {r_0 : Nat} {r_1 : Nat} {x_2 : Int32} {x_3 : Int32} {fs1 : List Value} {q_fs1_1 : Nat} {n4 : Nat} {f5 : Nat → Int32} {fs8 : List Value} {P : ipQ} (e2 : h r_1 = some (.inr (6, fs1))) (e3 : fs1[1]? = some (.ref q_fs1_1)) (e6 : h q_fs1_1 = some (.inl (0, n4, .inl f5))) (b7 : vp_in x_3 n4) (e9 : h r_0 = some (.inr (5, fs8))) (m10 : c ≤ MC) (m11 : s ≤ MS) (hc : call 31 [(.ref r_0), (.int (f5 x_3.toNatClampNeg)), (.int x_2)] h z 0 0 P) (K : ∀ (o : Option Value) (h2 : HP) (z2 : Nat), P o h2 z2 → ip sc call 30 MC MS Q 82 [some (.ref r_0), some (.ref r_1), some (.int x_2), some (.int x_3)] (o.toList ++ []) h2 z2 c s) : ip sc call 30 MC MS Q 71 [some (.ref r_0), some (.ref r_1), some (.int x_2), some (.int x_3)] [] h z c s := by
  refine jp_load (pc2 := 72) (n := 0) rfl rfl rfl rfl ?_
  refine jp_load (pc2 := 73) (n := 1) rfl rfl rfl rfl ?_
  refine jp_getf (pc2 := 76) rfl rfl e2 e3 ?_
  refine jp_load (pc2 := 77) (n := 3) rfl rfl rfl rfl ?_
  refine jp_iald (pc2 := 78) rfl rfl e6 b7 ?_
  refine jp_load (pc2 := 79) (n := 2) rfl rfl rfl rfl ?_
  exact jp_virt0 (pc2 := 82) (As := [(.int (f5 x_3.toNatClampNeg)), (.int x_2)]) (rest := []) rfl rfl rfl (Nat.le_of_ble_eq_true rfl) e9 m10 m11 hc rfl K
theorem b30_82 {r_0 : Nat} {r_1 : Nat} {x_2 : Int32} {x_3 : Int32}  (K : ip sc call 30 MC MS Q 54 [some (.ref r_0), some (.ref r_1), some (.int x_2), some (.int (x_3 + 1))] [] h z c s) : ip sc call 30 MC MS Q 82 [some (.ref r_0), some (.ref r_1), some (.int x_2), some (.int x_3)] [] h z c s := by
  refine jp_iinc (pc2 := 85) (n := 3) (v := x_3 + 1) rfl rfl rfl rfl rfl ?_
  refine ip_goto rfl ?_
  exact K
theorem b30_88 {r_0 : Nat} {r_1 : Nat} {x_2 : Int32} {o_3 : Option Value}  (K : ip sc call 30 MC MS Q 25 [some (.ref r_0), some (.ref r_1), some (.int (x_2 + 1)), o_3] [] h z c s) : ip sc call 30 MC MS Q 88 [some (.ref r_0), some (.ref r_1), some (.int x_2), o_3] [] h z c s := by
  refine jp_iinc (pc2 := 91) (n := 2) (v := x_2 + 1) rfl rfl rfl rfl rfl ?_
  refine ip_goto rfl ?_
  exact K
theorem b30_94 {r_0 : Nat} {r_1 : Nat} {o_2 : Option Value} {o_3 : Option Value} {fs1 : List Value} {v_fs1_7 : Int32} {fs4 : List Value} (e2 : h r_1 = some (.inr (6, fs1))) (e3 : fs1[7]? = some (.int v_fs1_7)) (e5 : h r_0 = some (.inr (5, fs4))) (l6 : fs4.length = 5) (q7 : Q none (hup h r_0 (.inr (5, (fs4.set 4 (.int ((1 <<< (v_fs1_7 &&& 31)) - 1)))))) z)  : ip sc call 30 MC MS Q 94 [some (.ref r_0), some (.ref r_1), o_2, o_3] [] h z c s := by
  refine jp_load (pc2 := 95) (n := 0) rfl rfl rfl rfl ?_
  refine jp_con (pc2 := 96) (v := .int 1) rfl rfl rfl ?_
  refine jp_load (pc2 := 97) (n := 1) rfl rfl rfl rfl ?_
  refine jp_getf (pc2 := 100) rfl rfl e2 e3 ?_
  refine jp_bin (pc2 := 101) (v := 1 <<< (v_fs1_7 &&& 31)) rfl rfl rfl ?_
  refine jp_con (pc2 := 102) (v := .int 1) rfl rfl rfl ?_
  refine jp_bin (pc2 := 103) (v := (1 <<< (v_fs1_7 &&& 31)) - 1) rfl rfl rfl ?_
  refine jp_putf (pc2 := 106) rfl rfl e5 (ln_lt l6 (by decide)) ⟨rfl, rfl⟩ ?_
  exact ip_vret (st := []) rfl rfl q7
theorem b31_0 {r_0 : Nat} {x_1 : Int32} {x_2 : Int32} {fs1 : List Value} {q_fs1_0 : Nat} {n4 : Nat} {f5 : Nat → Int32} {q_fs1_2 : Nat} {n10 : Nat} {f11 : Nat → Int32} (e2 : h r_0 = some (.inr (5, fs1))) (e3 : fs1[0]? = some (.ref q_fs1_0)) (e6 : h q_fs1_0 = some (.inl (0, n4, .inl f5))) (b7 : vp_in x_1 n4) (n8 : r_0 ≠ q_fs1_0) (e9 : fs1[2]? = some (.ref q_fs1_2)) (e12 : h q_fs1_2 = some (.inl (0, n10, .inl f11))) (n13 : q_fs1_2 ≠ q_fs1_0) (b14 : vp_in x_1 n10) (n15 : r_0 ≠ q_fs1_2) (n16 : q_fs1_0 ≠ q_fs1_2) (K1 : ¬ (((upd f5 x_1.toNatClampNeg ((f5 x_1.toNatClampNeg) + 1))) x_1.toNatClampNeg) = 1 → ip sc call 31 MC MS Q 37 [some (.ref r_0), some (.int x_1), some (.int x_2)] [] (hup (hup h q_fs1_0 (.inl (0, n4, .inl (upd f5 x_1.toNatClampNeg ((f5 x_1.toNatClampNeg) + 1))))) q_fs1_2 (.inl (0, n10, .inl (upd f11 x_1.toNatClampNeg x_2)))) z c s) (K2 : ¬ (¬ (((upd f5 x_1.toNatClampNeg ((f5 x_1.toNatClampNeg) + 1))) x_1.toNatClampNeg) = 1) → ip sc call 31 MC MS Q 27 [some (.ref r_0), some (.int x_1), some (.int x_2)] [] (hup (hup h q_fs1_0 (.inl (0, n4, .inl (upd f5 x_1.toNatClampNeg ((f5 x_1.toNatClampNeg) + 1))))) q_fs1_2 (.inl (0, n10, .inl (upd f11 x_1.toNatClampNeg x_2)))) z c s) : ip sc call 31 MC MS Q 0 [some (.ref r_0), some (.int x_1), some (.int x_2)] [] h z c s := by
  refine jp_load (pc2 := 1) (n := 0) rfl rfl rfl rfl ?_
  refine jp_getf (pc2 := 4) rfl rfl e2 e3 ?_
  refine jp_load (pc2 := 5) (n := 1) rfl rfl rfl rfl ?_
  refine jp_dup2 (pc2 := 6) rfl rfl rfl rfl ?_
  refine jp_iald (pc2 := 7) rfl rfl e6 b7 ?_
  refine jp_con (pc2 := 8) (v := .int 1) rfl rfl rfl ?_
  refine jp_bin (pc2 := 9) (v := (f5 x_1.toNatClampNeg) + 1) rfl rfl rfl ?_
  refine jp_iast (pc2 := 10) rfl rfl e6 b7 ?_
  refine jp_load (pc2 := 11) (n := 0) rfl rfl rfl rfl ?_
  refine jp_getf (pc2 := 14) rfl rfl (hup_ne n8 e2) e9 ?_
  refine jp_load (pc2 := 15) (n := 1) rfl rfl rfl rfl ?_
  refine jp_load (pc2 := 16) (n := 2) rfl rfl rfl rfl ?_
  refine jp_iast (pc2 := 17) rfl rfl (hup_ne n13 e12) b14 ?_
  refine jp_load (pc2 := 18) (n := 0) rfl rfl rfl rfl ?_
  refine jp_getf (pc2 := 21) rfl rfl (hup_ne n15 (hup_ne n8 e2)) e3 ?_
  refine jp_load (pc2 := 22) (n := 1) rfl rfl rfl rfl ?_
  refine jp_iald (pc2 := 23) rfl rfl (hup_ne n16 hup_eq) b7 ?_
  refine jp_con (pc2 := 24) (v := .int 1) rfl rfl rfl ?_
  exact jp_icmp (pc2 := 27) rfl rfl K1 K2
theorem b31_27 {r_0 : Nat} {x_1 : Int32} {x_2 : Int32} {fs1 : List Value} {q_fs1_1 : Nat} {n4 : Nat} {f5 : Nat → Int32} (e2 : h r_0 = some (.inr (5, fs1))) (e3 : fs1[1]? = some (.ref q_fs1_1)) (e6 : h q_fs1_1 = some (.inl (0, n4, .inl f5))) (b7 : vp_in x_1 n4) (K : ip sc call 31 MC MS Q 71 [some (.ref r_0), some (.int x_1), some (.int x_2)] [] (hup h q_fs1_1 (.inl (0, n4, .inl (upd f5 x_1.toNatClampNeg x_2)))) z c s) : ip sc call 31 MC MS Q 27 [some (.ref r_0), some (.int x_1), some (.int x_2)] [] h z c s := by
  refine jp_load (pc2 := 28) (n := 0) rfl rfl rfl rfl ?_
  refine jp_getf (pc2 := 31) rfl rfl e2 e3 ?_
  refine jp_load (pc2 := 32) (n := 1) rfl rfl rfl rfl ?_
  refine jp_load (pc2 := 33) (n := 2) rfl rfl rfl rfl ?_
  refine jp_iast (pc2 := 34) rfl rfl e6 b7 ?_
  refine ip_goto rfl ?_
  exact K
theorem b31_37 {r_0 : Nat} {x_1 : Int32} {x_2 : Int32} {fs1 : List Value} {q_fs1_3 : Nat} {n4 : Nat} {f5 : Nat → Int32} {q_fs1_1 : Nat} {n9 : Nat} {f10 : Nat → Int32} (e2 : h r_0 = some (.inr (5, fs1))) (e3 : fs1[3]? = some (.ref q_fs1_3)) (e6 : h q_fs1_3 = some (.inl (0, n4, .inl f5))) (b7 : vp_in x_2 n4) (e8 : fs1[1]? = some (.ref q_fs1_1)) (e11 : h q_fs1_1 = some (.inl (0, n9, .inl f10))) (b12 : vp_in x_1 n9) (n13 : r_0 ≠ q_fs1_3) (n14 : q_fs1_1 ≠ q_fs1_3) (b15 : vp_in (f10 x_1.toNatClampNeg) n4) (K : ip sc call 31 MC MS Q 71 [some (.ref r_0), some (.int x_1), some (.int x_2)] [] (hup (hup h q_fs1_3 (.inl (0, n4, .inl (upd f5 x_2.toNatClampNeg ((f5 x_2.toNatClampNeg) ||| (1 <<< ((f10 x_1.toNatClampNeg) &&& 31))))))) q_fs1_3 (.inl (0, n4, .inl (upd ((upd f5 x_2.toNatClampNeg ((f5 x_2.toNatClampNeg) ||| (1 <<< ((f10 x_1.toNatClampNeg) &&& 31))))) (f10 x_1.toNatClampNeg).toNatClampNeg ((((upd f5 x_2.toNatClampNeg ((f5 x_2.toNatClampNeg) ||| (1 <<< ((f10 x_1.toNatClampNeg) &&& 31))))) (f10 x_1.toNatClampNeg).toNatClampNeg) ||| (1 <<< (x_2 &&& 31))))))) z c s) : ip sc call 31 MC MS Q 37 [some (.ref r_0), some (.int x_1), some (.int x_2)] [] h z c s := by
  refine jp_load (pc2 := 38) (n := 0) rfl rfl rfl rfl ?_
  refine jp_getf (pc2 := 41) rfl rfl e2 e3 ?_
  refine jp_load (pc2 := 42) (n := 2) rfl rfl rfl rfl ?_
  refine jp_dup2 (pc2 := 43) rfl rfl rfl rfl ?_
  refine jp_iald (pc2 := 44) rfl rfl e6 b7 ?_
  refine jp_con (pc2 := 45) (v := .int 1) rfl rfl rfl ?_
  refine jp_load (pc2 := 46) (n := 0) rfl rfl rfl rfl ?_
  refine jp_getf (pc2 := 49) rfl rfl e2 e8 ?_
  refine jp_load (pc2 := 50) (n := 1) rfl rfl rfl rfl ?_
  refine jp_iald (pc2 := 51) rfl rfl e11 b12 ?_
  refine jp_bin (pc2 := 52) (v := 1 <<< ((f10 x_1.toNatClampNeg) &&& 31)) rfl rfl rfl ?_
  refine jp_bin (pc2 := 53) (v := (f5 x_2.toNatClampNeg) ||| (1 <<< ((f10 x_1.toNatClampNeg) &&& 31))) rfl rfl rfl ?_
  refine jp_iast (pc2 := 54) rfl rfl e6 b7 ?_
  refine jp_load (pc2 := 55) (n := 0) rfl rfl rfl rfl ?_
  refine jp_getf (pc2 := 58) rfl rfl (hup_ne n13 e2) e3 ?_
  refine jp_load (pc2 := 59) (n := 0) rfl rfl rfl rfl ?_
  refine jp_getf (pc2 := 62) rfl rfl (hup_ne n13 e2) e8 ?_
  refine jp_load (pc2 := 63) (n := 1) rfl rfl rfl rfl ?_
  refine jp_iald (pc2 := 64) rfl rfl (hup_ne n14 e11) b12 ?_
  refine jp_dup2 (pc2 := 65) rfl rfl rfl rfl ?_
  refine jp_iald (pc2 := 66) rfl rfl hup_eq b15 ?_
  refine jp_con (pc2 := 67) (v := .int 1) rfl rfl rfl ?_
  refine jp_load (pc2 := 68) (n := 2) rfl rfl rfl rfl ?_
  refine jp_bin (pc2 := 69) (v := 1 <<< (x_2 &&& 31)) rfl rfl rfl ?_
  refine jp_bin (pc2 := 70) (v := (((upd f5 x_2.toNatClampNeg ((f5 x_2.toNatClampNeg) ||| (1 <<< ((f10 x_1.toNatClampNeg) &&& 31))))) (f10 x_1.toNatClampNeg).toNatClampNeg) ||| (1 <<< (x_2 &&& 31))) rfl rfl rfl ?_
  refine jp_iast (pc2 := 71) rfl rfl hup_eq b15 ?_
  exact K
theorem b31_71 {o_0 : Option Value} {o_1 : Option Value} {o_2 : Option Value} (q1 : Q none h z)  : ip sc call 31 MC MS Q 71 [o_0, o_1, o_2] [] h z c s := by
  exact ip_vret (st := []) rfl rfl q1
theorem b32_0 {r_0 : Nat} {x_1 : Int32} {fs1 : List Value} {q_fs1_0 : Nat} {n4 : Nat} {f5 : Nat → Int32} (e2 : h r_0 = some (.inr (5, fs1))) (e3 : fs1[0]? = some (.ref q_fs1_0)) (e6 : h q_fs1_0 = some (.inl (0, n4, .inl f5))) (b7 : vp_in x_1 n4) (K1 : ¬ (f5 x_1.toNatClampNeg) = 2 → ip sc call 32 MC MS Q 29 [some (.ref r_0), some (.int x_1)] [] h z c s) (K2 : ¬ (¬ (f5 x_1.toNatClampNeg) = 2) → ip sc call 32 MC MS Q 10 [some (.ref r_0), some (.int x_1)] [] h z c s) : ip sc call 32 MC MS Q 0 [some (.ref r_0), some (.int x_1)] [] h z c s := by
  refine jp_load (pc2 := 1) (n := 0) rfl rfl rfl rfl ?_
  refine jp_getf (pc2 := 4) rfl rfl e2 e3 ?_
  refine jp_load (pc2 := 5) (n := 1) rfl rfl rfl rfl ?_
  refine jp_iald (pc2 := 6) rfl rfl e6 b7 ?_
  refine jp_con (pc2 := 7) (v := .int 2) rfl rfl rfl ?_
  exact jp_icmp (pc2 := 10) rfl rfl K1 K2
theorem b32_10 {r_0 : Nat} {x_1 : Int32} {fs1 : List Value} {q_fs1_1 : Nat} {n4 : Nat} {f5 : Nat → Int32} {q_fs1_2 : Nat} {n9 : Nat} {f10 : Nat → Int32} (e2 : h r_0 = some (.inr (5, fs1))) (e3 : fs1[1]? = some (.ref q_fs1_1)) (e6 : h q_fs1_1 = some (.inl (0, n4, .inl f5))) (b7 : vp_in x_1 n4) (e8 : fs1[2]? = some (.ref q_fs1_2)) (e11 : h q_fs1_2 = some (.inl (0, n9, .inl f10))) (b12 : vp_in x_1 n9) (K1 : ¬ (f5 x_1.toNatClampNeg) = (f10 x_1.toNatClampNeg) → ip sc call 32 MC MS Q 29 [some (.ref r_0), some (.int x_1)] [] h z c s) (K2 : ¬ (¬ (f5 x_1.toNatClampNeg) = (f10 x_1.toNatClampNeg)) → ip sc call 32 MC MS Q 25 [some (.ref r_0), some (.int x_1)] [] h z c s) : ip sc call 32 MC MS Q 10 [some (.ref r_0), some (.int x_1)] [] h z c s := by
  refine jp_load (pc2 := 11) (n := 0) rfl rfl rfl rfl ?_
  refine jp_getf (pc2 := 14) rfl rfl e2 e3 ?_
  refine jp_load (pc2 := 15) (n := 1) rfl rfl rfl rfl ?_
  refine jp_iald (pc2 := 16) rfl rfl e6 b7 ?_
  refine jp_load (pc2 := 17) (n := 0) rfl rfl rfl rfl ?_
  refine jp_getf (pc2 := 20) rfl rfl e2 e8 ?_
  refine jp_load (pc2 := 21) (n := 1) rfl rfl rfl rfl ?_
  refine jp_iald (pc2 := 22) rfl rfl e11 b12 ?_
  exact jp_icmp (pc2 := 25) rfl rfl K1 K2
theorem b32_25 {o_0 : Option Value} {o_1 : Option Value}  (K : ip sc call 32 MC MS Q 30 [o_0, o_1] [(.int 1)] h z c s) : ip sc call 32 MC MS Q 25 [o_0, o_1] [] h z c s := by
  refine jp_con (pc2 := 26) (v := .int 1) rfl rfl rfl ?_
  refine ip_goto rfl ?_
  exact K
theorem b32_29 {o_0 : Option Value} {o_1 : Option Value}  (K : ip sc call 32 MC MS Q 30 [o_0, o_1] [(.int 0)] h z c s) : ip sc call 32 MC MS Q 29 [o_0, o_1] [] h z c s := by
  refine jp_con (pc2 := 30) (v := .int 0) rfl rfl rfl ?_
  exact K
theorem b32_30 {o_0 : Option Value} {o_1 : Option Value} {sx_0 : Int32} (t1 : narrow .boolean (.int sx_0) = .int sx_0) (q2 : Q (some (.int sx_0)) h z)  : ip sc call 32 MC MS Q 30 [o_0, o_1] [(.int sx_0)] h z c s := by
  exact ip_iret (st := []) rfl rfl t1 q2
theorem b33_0 {r_0 : Nat} {x_1 : Int32} {o_2 : Option Value} {o_3 : Option Value} {o_4 : Option Value} {o_5 : Option Value} {fs1 : List Value} {v_fs1_4 : Int32} (e2 : h r_0 = some (.inr (5, fs1))) (e3 : fs1[4]? = some (.int v_fs1_4)) (K : ip sc call 33 MC MS Q 13 [some (.ref r_0), some (.int x_1), some (.int (v_fs1_4 &&& (-v_fs1_4))), some (.int 0), o_4, o_5] [] h z c s) : ip sc call 33 MC MS Q 0 [some (.ref r_0), some (.int x_1), o_2, o_3, o_4, o_5] [] h z c s := by
  refine jp_load (pc2 := 1) (n := 0) rfl rfl rfl rfl ?_
  refine jp_getf (pc2 := 4) rfl rfl e2 e3 ?_
  refine jp_load (pc2 := 5) (n := 0) rfl rfl rfl rfl ?_
  refine jp_getf (pc2 := 8) rfl rfl e2 e3 ?_
  refine jp_cv (pc2 := 9) (v := (.int (-v_fs1_4))) rfl rfl rfl ?_
  refine jp_bin (pc2 := 10) (v := v_fs1_4 &&& (-v_fs1_4)) rfl rfl rfl ?_
  refine jp_store (pc2 := 11) (n := 2) rfl rfl ⟨rfl, rfl⟩ rfl (Nat.le_of_ble_eq_true rfl) ?_
  refine jp_con (pc2 := 12) (v := .int 0) rfl rfl rfl ?_
  refine jp_store (pc2 := 13) (n := 3) rfl rfl ⟨rfl, rfl⟩ rfl (Nat.le_of_ble_eq_true rfl) ?_
  exact K
theorem b33_13 {r_0 : Nat} {x_1 : Int32} {x_2 : Int32} {x_3 : Int32} {o_4 : Option Value} {o_5 : Option Value}  (K1 : x_1 ≤ x_3 → ip sc call 33 MC MS Q 71 [some (.ref r_0), some (.int x_1), some (.int x_2), some (.int x_3), o_4, o_5] [] h z c s) (K2 : ¬ (x_1 ≤ x_3) → ip sc call 33 MC MS Q 18 [some (.ref r_0), some (.int x_1), some (.int x_2), some (.int x_3), o_4, o_5] [] h z c s) : ip sc call 33 MC MS Q 13 [some (.ref r_0), some (.int x_1), some (.int x_2), some (.int x_3), o_4, o_5] [] h z c s := by
  refine jp_load (pc2 := 14) (n := 3) rfl rfl rfl rfl ?_
  refine jp_load (pc2 := 15) (n := 1) rfl rfl rfl rfl ?_
  exact jp_icmp (pc2 := 18) rfl rfl K1 K2
theorem b33_18 {r_0 : Nat} {x_1 : Int32} {x_2 : Int32} {x_3 : Int32} {o_4 : Option Value} {o_5 : Option Value}  (K : ip sc call 33 MC MS Q 24 [some (.ref r_0), some (.int x_1), some (.int x_2), some (.int x_3), some (.int x_2), some (.int 0)] [] h z c s) : ip sc call 33 MC MS Q 18 [some (.ref r_0), some (.int x_1), some (.int x_2), some (.int x_3), o_4, o_5] [] h z c s := by
  refine jp_load (pc2 := 19) (n := 2) rfl rfl rfl rfl ?_
  refine jp_store (pc2 := 21) (n := 4) rfl rfl ⟨rfl, rfl⟩ rfl (Nat.le_of_ble_eq_true rfl) ?_
  refine jp_con (pc2 := 22) (v := .int 0) rfl rfl rfl ?_
  refine jp_store (pc2 := 24) (n := 5) rfl rfl ⟨rfl, rfl⟩ rfl (Nat.le_of_ble_eq_true rfl) ?_
  exact K
theorem b33_24 {r_0 : Nat} {x_1 : Int32} {x_2 : Int32} {x_3 : Int32} {x_4 : Int32} {x_5 : Int32}  (K1 : x_1 ≤ x_5 → ip sc call 33 MC MS Q 56 [some (.ref r_0), some (.int x_1), some (.int x_2), some (.int x_3), some (.int x_4), some (.int x_5)] [] h z c s) (K2 : ¬ (x_1 ≤ x_5) → ip sc call 33 MC MS Q 30 [some (.ref r_0), some (.int x_1), some (.int x_2), some (.int x_3), some (.int x_4), some (.int x_5)] [] h z c s) : ip sc call 33 MC MS Q 24 [some (.ref r_0), some (.int x_1), some (.int x_2), some (.int x_3), some (.int x_4), some (.int x_5)] [] h z c s := by
  refine jp_load (pc2 := 26) (n := 5) rfl rfl rfl rfl ?_
  refine jp_load (pc2 := 27) (n := 1) rfl rfl rfl rfl ?_
  exact jp_icmp (pc2 := 30) rfl rfl K1 K2
theorem b33_30 {r_0 : Nat} {x_1 : Int32} {x_2 : Int32} {x_3 : Int32} {x_4 : Int32} {x_5 : Int32}  (K1 : ¬ ((x_2 >>> (x_5 &&& 31)) &&& 1) = 1 → ip sc call 33 MC MS Q 50 [some (.ref r_0), some (.int x_1), some (.int x_2), some (.int x_3), some (.int x_4), some (.int x_5)] [] h z c s) (K2 : ¬ (¬ ((x_2 >>> (x_5 &&& 31)) &&& 1) = 1) → ip sc call 33 MC MS Q 40 [some (.ref r_0), some (.int x_1), some (.int x_2), some (.int x_3), some (.int x_4), some (.int x_5)] [] h z c s) : ip sc call 33 MC MS Q 30 [some (.ref r_0), some (.int x_1), some (.int x_2), some (.int x_3), some (.int x_4), some (.int x_5)] [] h z c s := by
  refine jp_load (pc2 := 31) (n := 2) rfl rfl rfl rfl ?_
  refine jp_load (pc2 := 33) (n := 5) rfl rfl rfl rfl ?_
  refine jp_bin (pc2 := 34) (v := x_2 >>> (x_5 &&& 31)) rfl rfl rfl ?_
  refine jp_con (pc2 := 35) (v := .int 1) rfl rfl rfl ?_
  refine jp_bin (pc2 := 36) (v := (x_2 >>> (x_5 &&& 31)) &&& 1) rfl rfl rfl ?_
  refine jp_con (pc2 := 37) (v := .int 1) rfl rfl rfl ?_
  exact jp_icmp (pc2 := 40) rfl rfl K1 K2
theorem b33_40 {r_0 : Nat} {x_1 : Int32} {x_2 : Int32} {x_3 : Int32} {x_4 : Int32} {x_5 : Int32} {fs1 : List Value} {q_fs1_3 : Nat} {n4 : Nat} {f5 : Nat → Int32} (e2 : h r_0 = some (.inr (5, fs1))) (e3 : fs1[3]? = some (.ref q_fs1_3)) (e6 : h q_fs1_3 = some (.inl (0, n4, .inl f5))) (b7 : vp_in x_5 n4) (K : ip sc call 33 MC MS Q 50 [some (.ref r_0), some (.int x_1), some (.int (x_2 ||| (f5 x_5.toNatClampNeg))), some (.int x_3), some (.int x_4), some (.int x_5)] [] h z c s) : ip sc call 33 MC MS Q 40 [some (.ref r_0), some (.int x_1), some (.int x_2), some (.int x_3), some (.int x_4), some (.int x_5)] [] h z c s := by
  refine jp_load (pc2 := 41) (n := 2) rfl rfl rfl rfl ?_
  refine jp_load (pc2 := 42) (n := 0) rfl rfl rfl rfl ?_
  refine jp_getf (pc2 := 45) rfl rfl e2 e3 ?_
  refine jp_load (pc2 := 47) (n := 5) rfl rfl rfl rfl ?_
  refine jp_iald (pc2 := 48) rfl rfl e6 b7 ?_
  refine jp_bin (pc2 := 49) (v := x_2 ||| (f5 x_5.toNatClampNeg)) rfl rfl rfl ?_
  refine jp_store (pc2 := 50) (n := 2) rfl rfl ⟨rfl, rfl⟩ rfl (Nat.le_of_ble_eq_true rfl) ?_
  exact K
theorem b33_50 {r_0 : Nat} {x_1 : Int32} {x_2 : Int32} {x_3 : Int32} {x_4 : Int32} {x_5 : Int32}  (K : ip sc call 33 MC MS Q 24 [some (.ref r_0), some (.int x_1), some (.int x_2), some (.int x_3), some (.int x_4), some (.int (x_5 + 1))] [] h z c s) : ip sc call 33 MC MS Q 50 [some (.ref r_0), some (.int x_1), some (.int x_2), some (.int x_3), some (.int x_4), some (.int x_5)] [] h z c s := by
  refine jp_iinc (pc2 := 53) (n := 5) (v := x_5 + 1) rfl rfl rfl rfl rfl ?_
  refine ip_goto rfl ?_
  exact K
theorem b33_56 {r_0 : Nat} {x_1 : Int32} {x_2 : Int32} {x_3 : Int32} {x_4 : Int32} {o_5 : Option Value}  (K1 : ¬ x_2 = x_4 → ip sc call 33 MC MS Q 65 [some (.ref r_0), some (.int x_1), some (.int x_2), some (.int x_3), some (.int x_4), o_5] [] h z c s) (K2 : ¬ (¬ x_2 = x_4) → ip sc call 33 MC MS Q 62 [some (.ref r_0), some (.int x_1), some (.int x_2), some (.int x_3), some (.int x_4), o_5] [] h z c s) : ip sc call 33 MC MS Q 56 [some (.ref r_0), some (.int x_1), some (.int x_2), some (.int x_3), some (.int x_4), o_5] [] h z c s := by
  refine jp_load (pc2 := 57) (n := 2) rfl rfl rfl rfl ?_
  refine jp_load (pc2 := 59) (n := 4) rfl rfl rfl rfl ?_
  exact jp_icmp (pc2 := 62) rfl rfl K1 K2
theorem b33_62 {r_0 : Nat} {o_1 : Option Value} {x_2 : Int32} {o_3 : Option Value} {o_4 : Option Value} {o_5 : Option Value}  (K : ip sc call 33 MC MS Q 71 [some (.ref r_0), o_1, some (.int x_2), o_3, o_4, o_5] [] h z c s) : ip sc call 33 MC MS Q 62 [some (.ref r_0), o_1, some (.int x_2), o_3, o_4, o_5] [] h z c s := by
  refine ip_goto rfl ?_
  exact K
theorem b33_65 {r_0 : Nat} {x_1 : Int32} {x_2 : Int32} {x_3 : Int32} {o_4 : Option Value} {o_5 : Option Value}  (K : ip sc call 33 MC MS Q 13 [some (.ref r_0), some (.int x_1), some (.int x_2), some (.int (x_3 + 1)), o_4, o_5] [] h z c s) : ip sc call 33 MC MS Q 65 [some (.ref r_0), some (.int x_1), some (.int x_2), some (.int x_3), o_4, o_5] [] h z c s := by
  refine jp_iinc (pc2 := 68) (n := 3) (v := x_3 + 1) rfl rfl rfl rfl rfl ?_
  refine ip_goto rfl ?_
  exact K
theorem b33_71 {r_0 : Nat} {o_1 : Option Value} {x_2 : Int32} {o_3 : Option Value} {o_4 : Option Value} {o_5 : Option Value} {fs1 : List Value} {v_fs1_4 : Int32} (e2 : h r_0 = some (.inr (5, fs1))) (e3 : fs1[4]? = some (.int v_fs1_4)) (l4 : fs1.length = 5) (q5 : Q (some (.int x_2)) (hup h r_0 (.inr (5, (fs1.set 4 (.int (v_fs1_4 &&& (x_2 ^^^ ((-1))))))))) z)  : ip sc call 33 MC MS Q 71 [some (.ref r_0), o_1, some (.int x_2), o_3, o_4, o_5] [] h z c s := by
  refine jp_load (pc2 := 72) (n := 0) rfl rfl rfl rfl ?_
  refine jp_dup (pc2 := 73) rfl rfl rfl ?_
  refine jp_getf (pc2 := 76) rfl rfl e2 e3 ?_
  refine jp_load (pc2 := 77) (n := 2) rfl rfl rfl rfl ?_
  refine jp_con (pc2 := 78) (v := .int (-1)) rfl rfl rfl ?_
  refine jp_bin (pc2 := 79) (v := x_2 ^^^ ((-1))) rfl rfl rfl ?_
  refine jp_bin (pc2 := 80) (v := v_fs1_4 &&& (x_2 ^^^ ((-1)))) rfl rfl rfl ?_
  refine jp_putf (pc2 := 83) rfl rfl e2 (ln_lt l4 (by decide)) ⟨rfl, rfl⟩ ?_
  refine jp_load (pc2 := 84) (n := 2) rfl rfl rfl rfl ?_
  exact ip_iret (st := []) rfl rfl rfl q5
theorem b34_0 {r_0 : Nat} {x_1 : Int32} {r_2 : Nat} {o_3 : Option Value} {o_4 : Option Value}  (K : ip sc call 34 MC MS Q 5 [some (.ref r_0), some (.int x_1), some (.ref r_2), some (.int 0), some (.int 0)] [] h z c s) : ip sc call 34 MC MS Q 0 [some (.ref r_0), some (.int x_1), some (.ref r_2), o_3, o_4] [] h z c s := by
  refine jp_con (pc2 := 1) (v := .int 0) rfl rfl rfl ?_
  refine jp_store (pc2 := 2) (n := 3) rfl rfl ⟨rfl, rfl⟩ rfl (Nat.le_of_ble_eq_true rfl) ?_
  refine jp_con (pc2 := 3) (v := .int 0) rfl rfl rfl ?_
  refine jp_store (pc2 := 5) (n := 4) rfl rfl ⟨rfl, rfl⟩ rfl (Nat.le_of_ble_eq_true rfl) ?_
  exact K
theorem b34_5 {r_0 : Nat} {x_1 : Int32} {r_2 : Nat} {x_3 : Int32} {x_4 : Int32} {fs1 : List Value} {v_fs1_8 : Int32} (e2 : h r_2 = some (.inr (6, fs1))) (e3 : fs1[8]? = some (.int v_fs1_8)) (K1 : v_fs1_8 ≤ x_4 → ip sc call 34 MC MS Q 55 [some (.ref r_0), some (.int x_1), some (.ref r_2), some (.int x_3), some (.int x_4)] [] h z c s) (K2 : ¬ (v_fs1_8 ≤ x_4) → ip sc call 34 MC MS Q 14 [some (.ref r_0), some (.int x_1), some (.ref r_2), some (.int x_3), some (.int x_4)] [] h z c s) : ip sc call 34 MC MS Q 5 [some (.ref r_0), some (.int x_1), some (.ref r_2), some (.int x_3), some (.int x_4)] [] h z c s := by
  refine jp_load (pc2 := 7) (n := 4) rfl rfl rfl rfl ?_
  refine jp_load (pc2 := 8) (n := 2) rfl rfl rfl rfl ?_
  refine jp_getf (pc2 := 11) rfl rfl e2 e3 ?_
  exact jp_icmp (pc2 := 14) rfl rfl K1 K2
theorem b34_14 {r_0 : Nat} {x_1 : Int32} {r_2 : Nat} {x_3 : Int32} {x_4 : Int32} {fs1 : List Value} {q_fs1_0 : Nat} {n4 : Nat} {f5 : Nat → Int32} (e2 : h r_0 = some (.inr (5, fs1))) (e3 : fs1[0]? = some (.ref q_fs1_0)) (e6 : h q_fs1_0 = some (.inl (0, n4, .inl f5))) (b7 : vp_in x_4 n4) (K1 : (f5 x_4.toNatClampNeg) ≤ 0 → ip sc call 34 MC MS Q 49 [some (.ref r_0), some (.int x_1), some (.ref r_2), some (.int x_3), some (.int x_4)] [] h z c s) (K2 : ¬ ((f5 x_4.toNatClampNeg) ≤ 0) → ip sc call 34 MC MS Q 24 [some (.ref r_0), some (.int x_1), some (.ref r_2), some (.int x_3), some (.int x_4)] [] h z c s) : ip sc call 34 MC MS Q 14 [some (.ref r_0), some (.int x_1), some (.ref r_2), some (.int x_3), some (.int x_4)] [] h z c s := by
  refine jp_load (pc2 := 15) (n := 0) rfl rfl rfl rfl ?_
  refine jp_getf (pc2 := 18) rfl rfl e2 e3 ?_
  refine jp_load (pc2 := 20) (n := 4) rfl rfl rfl rfl ?_
  refine jp_iald (pc2 := 21) rfl rfl e6 b7 ?_
  exact jp_if0 (pc2 := 24) rfl rfl K1 K2
theorem b34_24 {r_0 : Nat} {x_1 : Int32} {r_2 : Nat} {x_3 : Int32} {x_4 : Int32} {fs1 : List Value} {q_fs1_1 : Nat} {n4 : Nat} {f5 : Nat → Int32} (e2 : h r_0 = some (.inr (5, fs1))) (e3 : fs1[1]? = some (.ref q_fs1_1)) (e6 : h q_fs1_1 = some (.inl (0, n4, .inl f5))) (b7 : vp_in x_4 n4) (K1 : ¬ ((x_1 >>> ((f5 x_4.toNatClampNeg) &&& 31)) &&& 1) = 1 → ip sc call 34 MC MS Q 49 [some (.ref r_0), some (.int x_1), some (.ref r_2), some (.int x_3), some (.int x_4)] [] h z c s) (K2 : ¬ (¬ ((x_1 >>> ((f5 x_4.toNatClampNeg) &&& 31)) &&& 1) = 1) → ip sc call 34 MC MS Q 39 [some (.ref r_0), some (.int x_1), some (.ref r_2), some (.int x_3), some (.int x_4)] [] h z c s) : ip sc call 34 MC MS Q 24 [some (.ref r_0), some (.int x_1), some (.ref r_2), some (.int x_3), some (.int x_4)] [] h z c s := by
  refine jp_load (pc2 := 25) (n := 1) rfl rfl rfl rfl ?_
  refine jp_load (pc2 := 26) (n := 0) rfl rfl rfl rfl ?_
  refine jp_getf (pc2 := 29) rfl rfl e2 e3 ?_
  refine jp_load (pc2 := 31) (n := 4) rfl rfl rfl rfl ?_
  refine jp_iald (pc2 := 32) rfl rfl e6 b7 ?_
  refine jp_bin (pc2 := 33) (v := x_1 >>> ((f5 x_4.toNatClampNeg) &&& 31)) rfl rfl rfl ?_
  refine jp_con (pc2 := 34) (v := .int 1) rfl rfl rfl ?_
  refine jp_bin (pc2 := 35) (v := (x_1 >>> ((f5 x_4.toNatClampNeg) &&& 31)) &&& 1) rfl rfl rfl ?_
  refine jp_con (pc2 := 36) (v := .int 1) rfl rfl rfl ?_
  exact jp_icmp (pc2 := 39) rfl rfl K1 K2
theorem b34_39 {r_0 : Nat} {x_1 : Int32} {r_2 : Nat} {x_3 : Int32} {x_4 : Int32} {fs1 : List Value} {q_fs1_4 : Nat} {n4 : Nat} {f5 : Nat → Int32} (e2 : h r_2 = some (.inr (6, fs1))) (e3 : fs1[4]? = some (.ref q_fs1_4)) (e6 : h q_fs1_4 = some (.inl (0, n4, .inl f5))) (b7 : vp_in x_4 n4) (K : ip sc call 34 MC MS Q 49 [some (.ref r_0), some (.int x_1), some (.ref r_2), some (.int (x_3 + (f5 x_4.toNatClampNeg))), some (.int x_4)] [] h z c s) : ip sc call 34 MC MS Q 39 [some (.ref r_0), some (.int x_1), some (.ref r_2), some (.int x_3), some (.int x_4)] [] h z c s := by
  refine jp_load (pc2 := 40) (n := 3) rfl rfl rfl rfl ?_
  refine jp_load (pc2 := 41) (n := 2) rfl rfl rfl rfl ?_
  refine jp_getf (pc2 := 44) rfl rfl e2 e3 ?_
  refine jp_load (pc2 := 46) (n := 4) rfl rfl rfl rfl ?_
  refine jp_iald (pc2 := 47) rfl rfl e6 b7 ?_
  refine jp_bin (pc2 := 48) (v := x_3 + (f5 x_4.toNatClampNeg)) rfl rfl rfl ?_
  refine jp_store (pc2 := 49) (n := 3) rfl rfl ⟨rfl, rfl⟩ rfl (Nat.le_of_ble_eq_true rfl) ?_
  exact K
theorem b34_49 {r_0 : Nat} {x_1 : Int32} {r_2 : Nat} {x_3 : Int32} {x_4 : Int32}  (K : ip sc call 34 MC MS Q 5 [some (.ref r_0), some (.int x_1), some (.ref r_2), some (.int x_3), some (.int (x_4 + 1))] [] h z c s) : ip sc call 34 MC MS Q 49 [some (.ref r_0), some (.int x_1), some (.ref r_2), some (.int x_3), some (.int x_4)] [] h z c s := by
  refine jp_iinc (pc2 := 52) (n := 4) (v := x_4 + 1) rfl rfl rfl rfl rfl ?_
  refine ip_goto rfl ?_
  exact K
theorem b34_55 {o_0 : Option Value} {o_1 : Option Value} {o_2 : Option Value} {x_3 : Int32} {o_4 : Option Value} (q1 : Q (some (.int x_3)) h z)  : ip sc call 34 MC MS Q 55 [o_0, o_1, o_2, some (.int x_3), o_4] [] h z c s := by
  refine jp_load (pc2 := 56) (n := 3) rfl rfl rfl rfl ?_
  exact ip_iret (st := []) rfl rfl rfl q1
theorem b73_0g {r_0 : Nat} {P : ipQ} {mc ms : Nat} (m1 : c + 1 ≤ MC) (m2 : s + 2 ≤ MS) (m3 : c + 1 + mc ≤ MC) (m4 : s + 2 + ms ≤ MS) (hc : call 0 [(.ref z)] (hup h z (.inr (0, (ipDef 0)))) (z + 1) mc ms P) (K : ∀ (o : Option Value) (h2 : HP) (z2 : Nat), P o h2 z2 → ip sc call 73 MC MS Q 12 [some (.ref r_0)] (o.toList ++ [(.ref z), (.ref r_0)]) h2 z2 (c + 1 + mc) (s + 2 + ms)) : ip sc call 73 MC MS Q 0 [some (.ref r_0)] [] h z c s := by
  refine jp_load (pc2 := 1) (n := 0) rfl rfl rfl rfl ?_
  refine jp_objinit (pc2 := 4) rfl rfl (Nat.le_of_ble_eq_true rfl) ?_
  refine jp_load (pc2 := 5) (n := 0) rfl rfl rfl rfl ?_
  refine jp_new (pc2 := 8) (N := 2) rfl rfl rfl m1 m2 ?_
  refine jp_dup (pc2 := 9) rfl rfl rfl ?_
  exact jp_spec (pc2 := 12) (As := []) (rest := [(.ref z), (.ref r_0)]) rfl rfl rfl (Nat.le_of_ble_eq_true rfl) m3 m4 (by decide) hc rfl K
theorem b73_12g {r_0 : Nat} {sr_0 : Nat} {sr_1 : Nat} {fs1 : List Value} {fs6 : List Value} {P : ipQ} {mc ms : Nat} (e2 : h sr_0 = some (.inr (8, fs1))) (l3 : fs1.length = 4) (m4 : c + 1 ≤ MC) (m5 : s + 4 ≤ MS) (e7 : h r_0 = some (.inr (8, fs6))) (n8 : r_0 ≠ sr_0) (n9 : r_0 ≠ z) (l10 : fs6.length = 4) (m11 : c + 1 + 1 ≤ MC) (m12 : s + 4 + 6 ≤ MS) (m13 : c + 1 + 1 + mc ≤ MC) (m14 : s + 4 + 6 + ms ≤ MS) (hc : call 10 [(.ref (z + 1))] (hup (hup (hup (hup h sr_0 (.inr (8, (fs1.set 0 (.ref sr_1))))) z (.inl (6, 4, .inr (.inr (.inr (.inr (fun _ => none))))))) r_0 (.inr (8, (fs6.set 1 (.ref z))))) (z + 1) (.inr (2, (ipDef 2)))) (z + 1 + 1) mc ms P) (K : ∀ (o : Option Value) (h2 : HP) (z2 : Nat), P o h2 z2 → ip sc call 73 MC MS Q 31 [some (.ref r_0)] (o.toList ++ [(.ref (z + 1)), (.ref r_0)]) h2 z2 (c + 1 + 1 + mc) (s + 4 + 6 + ms)) : ip sc call 73 MC MS Q 12 [some (.ref r_0)] [(.ref sr_1), (.ref sr_0)] h z c s := by
  refine jp_putf (pc2 := 15) rfl rfl e2 (ln_lt l3 (by decide)) ⟨rfl, rfl⟩ ?_
  refine jp_load (pc2 := 16) (n := 0) rfl rfl rfl rfl ?_
  refine jp_con (pc2 := 17) (v := .int 4) rfl rfl rfl ?_
  refine jp_newq (pc2 := 20) (N := 4) rfl rfl (by decide) (by decide) (by decide) m4 m5 ?_
  refine jp_putf (pc2 := 23) rfl rfl (hup_ne n9 (hup_ne n8 e7)) (ln_lt l10 (by decide)) ⟨rfl, rfl⟩ ?_
  refine jp_load (pc2 := 24) (n := 0) rfl rfl rfl rfl ?_
  refine jp_new (pc2 := 27) (N := 6) rfl rfl rfl m11 m12 ?_
  refine jp_dup (pc2 := 28) rfl rfl rfl ?_
  exact jp_spec (pc2 := 31) (As := []) (rest := [(.ref (z + 1)), (.ref r_0)]) rfl rfl rfl (Nat.le_of_ble_eq_true rfl) m13 m14 (by decide) hc rfl K
theorem b73_31g {r_0 : Nat} {sr_0 : Nat} {sr_1 : Nat} {fs1 : List Value} {fs4 : List Value} {q_fs4_0 : Nat} {fs8 : List Value} {P : ipQ} {mc ms : Nat} (e2 : h sr_0 = some (.inr (8, fs1))) (l3 : fs1.length = 4) (e5 : h r_0 = some (.inr (8, fs4))) (n6 : r_0 ≠ sr_0) (e7 : fs4[0]? = some (.ref q_fs4_0)) (e9 : h q_fs4_0 = some (.inr (0, fs8))) (n10 : q_fs4_0 ≠ sr_0) (m11 : c + mc ≤ MC) (m12 : s + ms ≤ MS) (hc : call 2 [(.ref q_fs4_0), (.int 2)] (hup h sr_0 (.inr (8, (fs1.set 2 (.ref sr_1))))) z mc ms P) (K : ∀ (o : Option Value) (h2 : HP) (z2 : Nat), P o h2 z2 → ip sc call 73 MC MS Q 42 [some (.ref r_0)] (o.toList ++ []) h2 z2 (c + mc) (s + ms)) : ip sc call 73 MC MS Q 31 [some (.ref r_0)] [(.ref sr_1), (.ref sr_0)] h z c s := by
  refine jp_putf (pc2 := 34) rfl rfl e2 (ln_lt l3 (by decide)) ⟨rfl, rfl⟩ ?_
  refine jp_load (pc2 := 35) (n := 0) rfl rfl rfl rfl ?_
  refine jp_getf (pc2 := 38) rfl rfl (hup_ne n6 e5) e7 ?_
  refine jp_con (pc2 := 39) (v := .int 2) rfl rfl rfl ?_
  exact jp_virt (pc2 := 42) (As := [(.int 2)]) (rest := []) rfl rfl rfl (Nat.le_of_ble_eq_true rfl) (hup_ne n10 e9) m11 m12 hc rfl K
theorem b73_42 {o_0 : Option Value} (q1 : Q none h z)  : ip sc call 73 MC MS Q 42 [o_0] [] h z c s := by
  exact ip_vret (st := []) rfl rfl q1
theorem b74_0 {r_0 : Nat} {x_1 : Int32}  (K1 : x_1 < 1 → ip sc call 74 MC MS Q 11 [some (.ref r_0), some (.int x_1)] [] h z c s) (K2 : ¬ (x_1 < 1) → ip sc call 74 MC MS Q 5 [some (.ref r_0), some (.int x_1)] [] h z c s) : ip sc call 74 MC MS Q 0 [some (.ref r_0), some (.int x_1)] [] h z c s := by
  refine jp_load (pc2 := 1) (n := 1) rfl rfl rfl rfl ?_
  refine jp_con (pc2 := 2) (v := .int 1) rfl rfl rfl ?_
  exact jp_icmp (pc2 := 5) rfl rfl K1 K2
theorem b74_5 {r_0 : Nat} {x_1 : Int32}  (K1 : x_1 ≤ 8 → ip sc call 74 MC MS Q 13 [some (.ref r_0), some (.int x_1)] [] h z c s) (K2 : ¬ (x_1 ≤ 8) → ip sc call 74 MC MS Q 11 [some (.ref r_0), some (.int x_1)] [] h z c s) : ip sc call 74 MC MS Q 5 [some (.ref r_0), some (.int x_1)] [] h z c s := by
  refine jp_load (pc2 := 6) (n := 1) rfl rfl rfl rfl ?_
  refine jp_con (pc2 := 8) (v := .int 8) rfl rfl rfl ?_
  exact jp_icmp (pc2 := 11) rfl rfl K1 K2
theorem b74_11 {o_0 : Option Value} {o_1 : Option Value} (q1 : Q (some (.int 0)) h z)  : ip sc call 74 MC MS Q 11 [o_0, o_1] [] h z c s := by
  refine jp_con (pc2 := 12) (v := .int 0) rfl rfl rfl ?_
  exact ip_iret (st := []) rfl rfl rfl q1
theorem b74_13 {r_0 : Nat} {x_1 : Int32} {fs1 : List Value} {q_fs1_0 : Nat} {fs4 : List Value} {P : ipQ} (e2 : h r_0 = some (.inr (8, fs1))) (e3 : fs1[0]? = some (.ref q_fs1_0)) (e5 : h q_fs1_0 = some (.inr (0, fs4))) (m6 : c ≤ MC) (m7 : s ≤ MS) (hc : call 2 [(.ref q_fs1_0), (.int x_1)] h z 0 0 P) (K : ∀ (o : Option Value) (h2 : HP) (z2 : Nat), P o h2 z2 → ip sc call 74 MC MS Q 21 [some (.ref r_0), some (.int x_1)] (o.toList ++ []) h2 z2 c s) : ip sc call 74 MC MS Q 13 [some (.ref r_0), some (.int x_1)] [] h z c s := by
  refine jp_load (pc2 := 14) (n := 0) rfl rfl rfl rfl ?_
  refine jp_getf (pc2 := 17) rfl rfl e2 e3 ?_
  refine jp_load (pc2 := 18) (n := 1) rfl rfl rfl rfl ?_
  exact jp_virt0 (pc2 := 21) (As := [(.int x_1)]) (rest := []) rfl rfl rfl (Nat.le_of_ble_eq_true rfl) e5 m6 m7 hc rfl K
theorem b74_21 {o_0 : Option Value} {o_1 : Option Value} (q1 : Q (some (.int 1)) h z)  : ip sc call 74 MC MS Q 21 [o_0, o_1] [] h z c s := by
  refine jp_con (pc2 := 22) (v := .int 1) rfl rfl rfl ?_
  exact ip_iret (st := []) rfl rfl rfl q1
theorem b75_0 {r_0 : Nat} {x_1 : Int32} {o_2 : Option Value} {fs1 : List Value} {q_fs1_0 : Nat} {fs4 : List Value} {P : ipQ} (e2 : h r_0 = some (.inr (8, fs1))) (e3 : fs1[0]? = some (.ref q_fs1_0)) (e5 : h q_fs1_0 = some (.inr (0, fs4))) (m6 : c ≤ MC) (m7 : s ≤ MS) (hc : call 1 [(.ref q_fs1_0)] h z 0 0 P) (K : ∀ (o : Option Value) (h2 : HP) (z2 : Nat), P o h2 z2 → ip sc call 75 MC MS Q 7 [some (.ref r_0), some (.int x_1), o_2] (o.toList ++ []) h2 z2 c s) : ip sc call 75 MC MS Q 0 [some (.ref r_0), some (.int x_1), o_2] [] h z c s := by
  refine jp_load (pc2 := 1) (n := 0) rfl rfl rfl rfl ?_
  refine jp_getf (pc2 := 4) rfl rfl e2 e3 ?_
  exact jp_virt0 (pc2 := 7) (As := []) (rest := []) rfl rfl rfl (Nat.le_of_ble_eq_true rfl) e5 m6 m7 hc rfl K
theorem b75_7 {r_0 : Nat} {x_1 : Int32} {o_2 : Option Value} {sr_0 : Nat} {tgt : Nat} (t1 : ipTab 9 75 0 5 #[39, 44, 49, 60, 65, 70] x_1 = some tgt) (K : ip sc call 75 MC MS Q tgt [some (.ref r_0), some (.int x_1), some (.ref sr_0)] [] h z c s) : ip sc call 75 MC MS Q 7 [some (.ref r_0), some (.int x_1), o_2] [(.ref sr_0)] h z c s := by
  refine jp_store (pc2 := 8) (n := 2) rfl rfl ⟨rfl, rfl⟩ rfl (Nat.le_of_ble_eq_true rfl) ?_
  refine jp_load (pc2 := 9) (n := 1) rfl rfl rfl rfl ?_
  exact ip_tab rfl t1 K
theorem b75_48 {o_0 : Option Value} {o_1 : Option Value} {r_2 : Nat} {fs1 : List Value} {v_fs1_8 : Int32} (e2 : h r_2 = some (.inr (6, fs1))) (e3 : fs1[8]? = some (.int v_fs1_8)) (q4 : Q (some (.int v_fs1_8)) h z)  : ip sc call 75 MC MS Q 48 [o_0, o_1, some (.ref r_2)] [] h z c s := by
  refine jp_load (pc2 := 49) (n := 2) rfl rfl rfl rfl ?_
  refine jp_getf (pc2 := 52) rfl rfl e2 e3 ?_
  exact ip_iret (st := []) rfl rfl rfl q4
theorem b75_53 {o_0 : Option Value} {o_1 : Option Value} {r_2 : Nat} {fs1 : List Value} {v_fs1_7 : Int32} (e2 : h r_2 = some (.inr (6, fs1))) (e3 : fs1[7]? = some (.int v_fs1_7)) (q4 : Q (some (.int v_fs1_7)) h z)  : ip sc call 75 MC MS Q 53 [o_0, o_1, some (.ref r_2)] [] h z c s := by
  refine jp_load (pc2 := 54) (n := 2) rfl rfl rfl rfl ?_
  refine jp_getf (pc2 := 57) rfl rfl e2 e3 ?_
  exact ip_iret (st := []) rfl rfl rfl q4
theorem b75_58 {r_0 : Nat} {o_1 : Option Value} {o_2 : Option Value} {fs1 : List Value} {q_fs1_0 : Nat} {fs4 : List Value} {q_fs4_0 : Nat} {fs7 : List Value} {v_fs7_2 : Int32} (e2 : h r_0 = some (.inr (8, fs1))) (e3 : fs1[0]? = some (.ref q_fs1_0)) (e5 : h q_fs1_0 = some (.inr (0, fs4))) (e6 : fs4[0]? = some (.ref q_fs4_0)) (e8 : h q_fs4_0 = some (.inr (4, fs7))) (e9 : fs7[2]? = some (.int v_fs7_2)) (q10 : Q (some (.int v_fs7_2)) h z)  : ip sc call 75 MC MS Q 58 [some (.ref r_0), o_1, o_2] [] h z c s := by
  refine jp_load (pc2 := 59) (n := 0) rfl rfl rfl rfl ?_
  refine jp_getf (pc2 := 62) rfl rfl e2 e3 ?_
  refine jp_getf (pc2 := 65) rfl rfl e5 e6 ?_
  refine jp_getf (pc2 := 68) rfl rfl e8 e9 ?_
  exact ip_iret (st := []) rfl rfl rfl q10
theorem b75_69 {o_0 : Option Value} {o_1 : Option Value} {r_2 : Nat} {fs1 : List Value} {v_fs1_10 : Int32} (e2 : h r_2 = some (.inr (6, fs1))) (e3 : fs1[10]? = some (.int v_fs1_10)) (q4 : Q (some (.int v_fs1_10)) h z)  : ip sc call 75 MC MS Q 69 [o_0, o_1, some (.ref r_2)] [] h z c s := by
  refine jp_load (pc2 := 70) (n := 2) rfl rfl rfl rfl ?_
  refine jp_getf (pc2 := 73) rfl rfl e2 e3 ?_
  exact ip_iret (st := []) rfl rfl rfl q4
theorem b75_74 {o_0 : Option Value} {o_1 : Option Value} {r_2 : Nat} {fs1 : List Value} {v_fs1_6 : Int32} (e2 : h r_2 = some (.inr (6, fs1))) (e3 : fs1[6]? = some (.int v_fs1_6)) (q4 : Q (some (.int v_fs1_6)) h z)  : ip sc call 75 MC MS Q 74 [o_0, o_1, some (.ref r_2)] [] h z c s := by
  refine jp_load (pc2 := 75) (n := 2) rfl rfl rfl rfl ?_
  refine jp_getf (pc2 := 78) rfl rfl e2 e3 ?_
  exact ip_iret (st := []) rfl rfl rfl q4
theorem b75_79 {o_0 : Option Value} {o_1 : Option Value} {r_2 : Nat} {fs1 : List Value} {v_fs1_9 : Int32} (e2 : h r_2 = some (.inr (6, fs1))) (e3 : fs1[9]? = some (.int v_fs1_9)) (q4 : Q (some (.int v_fs1_9)) h z)  : ip sc call 75 MC MS Q 79 [o_0, o_1, some (.ref r_2)] [] h z c s := by
  refine jp_load (pc2 := 80) (n := 2) rfl rfl rfl rfl ?_
  refine jp_getf (pc2 := 83) rfl rfl e2 e3 ?_
  exact ip_iret (st := []) rfl rfl rfl q4
theorem b75_84 {o_0 : Option Value} {o_1 : Option Value} {o_2 : Option Value} (q1 : Q (some (.int ((-1)))) h z)  : ip sc call 75 MC MS Q 84 [o_0, o_1, o_2] [] h z c s := by
  refine jp_con (pc2 := 85) (v := .int (-1)) rfl rfl rfl ?_
  exact ip_iret (st := []) rfl rfl rfl q1
theorem b76_0 {r_0 : Nat} {x_1 : Int32} {o_2 : Option Value} {fs1 : List Value} {q_fs1_0 : Nat} {fs4 : List Value} {P : ipQ} (e2 : h r_0 = some (.inr (8, fs1))) (e3 : fs1[0]? = some (.ref q_fs1_0)) (e5 : h q_fs1_0 = some (.inr (0, fs4))) (m6 : c ≤ MC) (m7 : s ≤ MS) (hc : call 1 [(.ref q_fs1_0)] h z 0 0 P) (K : ∀ (o : Option Value) (h2 : HP) (z2 : Nat), P o h2 z2 → ip sc call 76 MC MS Q 7 [some (.ref r_0), some (.int x_1), o_2] (o.toList ++ []) h2 z2 c s) : ip sc call 76 MC MS Q 0 [some (.ref r_0), some (.int x_1), o_2] [] h z c s := by
  refine jp_load (pc2 := 1) (n := 0) rfl rfl rfl rfl ?_
  refine jp_getf (pc2 := 4) rfl rfl e2 e3 ?_
  exact jp_virt0 (pc2 := 7) (As := []) (rest := []) rfl rfl rfl (Nat.le_of_ble_eq_true rfl) e5 m6 m7 hc rfl K
theorem b76_7 {o_0 : Option Value} {x_1 : Int32} {o_2 : Option Value} {sr_0 : Nat} {fs1 : List Value} {P : ipQ} (e2 : h sr_0 = some (.inr (6, fs1))) (m3 : c ≤ MC) (m4 : s ≤ MS) (hc : call 36 [(.ref sr_0), (.int x_1)] h z 0 0 P) (K : ∀ (o : Option Value) (h2 : HP) (z2 : Nat), P o h2 z2 → ip sc call 76 MC MS Q 13 [o_0, some (.int x_1), some (.ref sr_0)] (o.toList ++ []) h2 z2 c s) : ip sc call 76 MC MS Q 7 [o_0, some (.int x_1), o_2] [(.ref sr_0)] h z c s := by
  refine jp_store (pc2 := 8) (n := 2) rfl rfl ⟨rfl, rfl⟩ rfl (Nat.le_of_ble_eq_true rfl) ?_
  refine jp_load (pc2 := 9) (n := 2) rfl rfl rfl rfl ?_
  refine jp_load (pc2 := 10) (n := 1) rfl rfl rfl rfl ?_
  exact jp_virt0 (pc2 := 13) (As := [(.int x_1)]) (rest := []) rfl rfl rfl (Nat.le_of_ble_eq_true rfl) e2 m3 m4 hc rfl K
theorem b76_13 {o_0 : Option Value} {x_1 : Int32} {r_2 : Nat} {sx_0 : Int32}  (K1 : sx_0 = 0 → ip sc call 76 MC MS Q 24 [o_0, some (.int x_1), some (.ref r_2)] [] h z c s) (K2 : ¬ (sx_0 = 0) → ip sc call 76 MC MS Q 16 [o_0, some (.int x_1), some (.ref r_2)] [] h z c s) : ip sc call 76 MC MS Q 13 [o_0, some (.int x_1), some (.ref r_2)] [(.int sx_0)] h z c s := by
  exact jp_if0 (pc2 := 16) rfl rfl K1 K2
theorem b76_16 {o_0 : Option Value} {x_1 : Int32} {r_2 : Nat} {fs1 : List Value} {P : ipQ} (e2 : h r_2 = some (.inr (6, fs1))) (m3 : c ≤ MC) (m4 : s ≤ MS) (hc : call 39 [(.ref r_2), (.int x_1)] h z 0 0 P) (K : ∀ (o : Option Value) (h2 : HP) (z2 : Nat), P o h2 z2 → ip sc call 76 MC MS Q 21 [o_0, some (.int x_1), some (.ref r_2)] (o.toList ++ []) h2 z2 c s) : ip sc call 76 MC MS Q 16 [o_0, some (.int x_1), some (.ref r_2)] [] h z c s := by
  refine jp_load (pc2 := 17) (n := 2) rfl rfl rfl rfl ?_
  refine jp_load (pc2 := 18) (n := 1) rfl rfl rfl rfl ?_
  exact jp_virt0 (pc2 := 21) (As := [(.int x_1)]) (rest := []) rfl rfl rfl (Nat.le_of_ble_eq_true rfl) e2 m3 m4 hc rfl K
theorem b76_21 {o_0 : Option Value} {o_1 : Option Value} {o_2 : Option Value} {sx_0 : Int32}  (K : ip sc call 76 MC MS Q 25 [o_0, o_1, o_2] [(.int sx_0)] h z c s) : ip sc call 76 MC MS Q 21 [o_0, o_1, o_2] [(.int sx_0)] h z c s := by
  refine ip_goto rfl ?_
  exact K
theorem b76_24 {o_0 : Option Value} {o_1 : Option Value} {o_2 : Option Value}  (K : ip sc call 76 MC MS Q 25 [o_0, o_1, o_2] [(.int ((-1)))] h z c s) : ip sc call 76 MC MS Q 24 [o_0, o_1, o_2] [] h z c s := by
  refine jp_con (pc2 := 25) (v := .int (-1)) rfl rfl rfl ?_
  exact K
theorem b76_25 {o_0 : Option Value} {o_1 : Option Value} {o_2 : Option Value} {sx_0 : Int32} (q1 : Q (some (.int sx_0)) h z)  : ip sc call 76 MC MS Q 25 [o_0, o_1, o_2] [(.int sx_0)] h z c s := by
  exact ip_iret (st := []) rfl rfl rfl q1
theorem b77_0 {r_0 : Nat} {x_1 : Int32} {x_2 : Int32} {o_3 : Option Value} {fs1 : List Value} {q_fs1_0 : Nat} {fs4 : List Value} {P : ipQ} (e2 : h r_0 = some (.inr (8, fs1))) (e3 : fs1[0]? = some (.ref q_fs1_0)) (e5 : h q_fs1_0 = some (.inr (0, fs4))) (m6 : c ≤ MC) (m7 : s ≤ MS) (hc : call 1 [(.ref q_fs1_0)] h z 0 0 P) (K : ∀ (o : Option Value) (h2 : HP) (z2 : Nat), P o h2 z2 → ip sc call 77 MC MS Q 7 [some (.ref r_0), some (.int x_1), some (.int x_2), o_3] (o.toList ++ []) h2 z2 c s) : ip sc call 77 MC MS Q 0 [some (.ref r_0), some (.int x_1), some (.int x_2), o_3] [] h z c s := by
  refine jp_load (pc2 := 1) (n := 0) rfl rfl rfl rfl ?_
  refine jp_getf (pc2 := 4) rfl rfl e2 e3 ?_
  exact jp_virt0 (pc2 := 7) (As := []) (rest := []) rfl rfl rfl (Nat.le_of_ble_eq_true rfl) e5 m6 m7 hc rfl K
theorem b77_7 {o_0 : Option Value} {x_1 : Int32} {x_2 : Int32} {o_3 : Option Value} {sr_0 : Nat} {fs1 : List Value} {P : ipQ} (e2 : h sr_0 = some (.inr (6, fs1))) (m3 : c ≤ MC) (m4 : s ≤ MS) (hc : call 37 [(.ref sr_0), (.int x_1), (.int x_2)] h z 0 0 P) (K : ∀ (o : Option Value) (h2 : HP) (z2 : Nat), P o h2 z2 → ip sc call 77 MC MS Q 14 [o_0, some (.int x_1), some (.int x_2), some (.ref sr_0)] (o.toList ++ []) h2 z2 c s) : ip sc call 77 MC MS Q 7 [o_0, some (.int x_1), some (.int x_2), o_3] [(.ref sr_0)] h z c s := by
  refine jp_store (pc2 := 8) (n := 3) rfl rfl ⟨rfl, rfl⟩ rfl (Nat.le_of_ble_eq_true rfl) ?_
  refine jp_load (pc2 := 9) (n := 3) rfl rfl rfl rfl ?_
  refine jp_load (pc2 := 10) (n := 1) rfl rfl rfl rfl ?_
  refine jp_load (pc2 := 11) (n := 2) rfl rfl rfl rfl ?_
  exact jp_virt0 (pc2 := 14) (As := [(.int x_1), (.int x_2)]) (rest := []) rfl rfl rfl (Nat.le_of_ble_eq_true rfl) e2 m3 m4 hc rfl K
theorem b77_14 {o_0 : Option Value} {x_1 : Int32} {x_2 : Int32} {r_3 : Nat} {sx_0 : Int32}  (K1 : sx_0 = 0 → ip sc call 77 MC MS Q 26 [o_0, some (.int x_1), some (.int x_2), some (.ref r_3)] [] h z c s) (K2 : ¬ (sx_0 = 0) → ip sc call 77 MC MS Q 17 [o_0, some (.int x_1), some (.int x_2), some (.ref r_3)] [] h z c s) : ip sc call 77 MC MS Q 14 [o_0, some (.int x_1), some (.int x_2), some (.ref r_3)] [(.int sx_0)] h z c s := by
  exact jp_if0 (pc2 := 17) rfl rfl K1 K2
theorem b77_17 {o_0 : Option Value} {x_1 : Int32} {x_2 : Int32} {r_3 : Nat} {fs1 : List Value} {P : ipQ} (e2 : h r_3 = some (.inr (6, fs1))) (m3 : c ≤ MC) (m4 : s ≤ MS) (hc : call 40 [(.ref r_3), (.int x_1), (.int x_2)] h z 0 0 P) (K : ∀ (o : Option Value) (h2 : HP) (z2 : Nat), P o h2 z2 → ip sc call 77 MC MS Q 23 [o_0, some (.int x_1), some (.int x_2), some (.ref r_3)] (o.toList ++ []) h2 z2 c s) : ip sc call 77 MC MS Q 17 [o_0, some (.int x_1), some (.int x_2), some (.ref r_3)] [] h z c s := by
  refine jp_load (pc2 := 18) (n := 3) rfl rfl rfl rfl ?_
  refine jp_load (pc2 := 19) (n := 1) rfl rfl rfl rfl ?_
  refine jp_load (pc2 := 20) (n := 2) rfl rfl rfl rfl ?_
  exact jp_virt0 (pc2 := 23) (As := [(.int x_1), (.int x_2)]) (rest := []) rfl rfl rfl (Nat.le_of_ble_eq_true rfl) e2 m3 m4 hc rfl K
theorem b77_23 {o_0 : Option Value} {o_1 : Option Value} {o_2 : Option Value} {o_3 : Option Value} {sx_0 : Int32}  (K : ip sc call 77 MC MS Q 27 [o_0, o_1, o_2, o_3] [(.int sx_0)] h z c s) : ip sc call 77 MC MS Q 23 [o_0, o_1, o_2, o_3] [(.int sx_0)] h z c s := by
  refine ip_goto rfl ?_
  exact K
theorem b77_26 {o_0 : Option Value} {o_1 : Option Value} {o_2 : Option Value} {o_3 : Option Value}  (K : ip sc call 77 MC MS Q 27 [o_0, o_1, o_2, o_3] [(.int ((-1)))] h z c s) : ip sc call 77 MC MS Q 26 [o_0, o_1, o_2, o_3] [] h z c s := by
  refine jp_con (pc2 := 27) (v := .int (-1)) rfl rfl rfl ?_
  exact K
theorem b77_27 {o_0 : Option Value} {o_1 : Option Value} {o_2 : Option Value} {o_3 : Option Value} {sx_0 : Int32} (q1 : Q (some (.int sx_0)) h z)  : ip sc call 77 MC MS Q 27 [o_0, o_1, o_2, o_3] [(.int sx_0)] h z c s := by
  exact ip_iret (st := []) rfl rfl rfl q1
theorem b78_0 {r_0 : Nat} {x_1 : Int32} {x_2 : Int32} {x_3 : Int32} {o_4 : Option Value} {fs1 : List Value} {q_fs1_0 : Nat} {fs4 : List Value} {P : ipQ} (e2 : h r_0 = some (.inr (8, fs1))) (e3 : fs1[0]? = some (.ref q_fs1_0)) (e5 : h q_fs1_0 = some (.inr (0, fs4))) (m6 : c ≤ MC) (m7 : s ≤ MS) (hc : call 1 [(.ref q_fs1_0)] h z 0 0 P) (K : ∀ (o : Option Value) (h2 : HP) (z2 : Nat), P o h2 z2 → ip sc call 78 MC MS Q 7 [some (.ref r_0), some (.int x_1), some (.int x_2), some (.int x_3), o_4] (o.toList ++ []) h2 z2 c s) : ip sc call 78 MC MS Q 0 [some (.ref r_0), some (.int x_1), some (.int x_2), some (.int x_3), o_4] [] h z c s := by
  refine jp_load (pc2 := 1) (n := 0) rfl rfl rfl rfl ?_
  refine jp_getf (pc2 := 4) rfl rfl e2 e3 ?_
  exact jp_virt0 (pc2 := 7) (As := []) (rest := []) rfl rfl rfl (Nat.le_of_ble_eq_true rfl) e5 m6 m7 hc rfl K
theorem b78_7 {o_0 : Option Value} {x_1 : Int32} {x_2 : Int32} {x_3 : Int32} {o_4 : Option Value} {sr_0 : Nat} {fs1 : List Value} {P : ipQ} (e2 : h sr_0 = some (.inr (6, fs1))) (m3 : c ≤ MC) (m4 : s ≤ MS) (hc : call 38 [(.ref sr_0), (.int x_1), (.int x_2), (.int x_3)] h z 0 0 P) (K : ∀ (o : Option Value) (h2 : HP) (z2 : Nat), P o h2 z2 → ip sc call 78 MC MS Q 17 [o_0, some (.int x_1), some (.int x_2), some (.int x_3), some (.ref sr_0)] (o.toList ++ []) h2 z2 c s) : ip sc call 78 MC MS Q 7 [o_0, some (.int x_1), some (.int x_2), some (.int x_3), o_4] [(.ref sr_0)] h z c s := by
  refine jp_store (pc2 := 9) (n := 4) rfl rfl ⟨rfl, rfl⟩ rfl (Nat.le_of_ble_eq_true rfl) ?_
  refine jp_load (pc2 := 11) (n := 4) rfl rfl rfl rfl ?_
  refine jp_load (pc2 := 12) (n := 1) rfl rfl rfl rfl ?_
  refine jp_load (pc2 := 13) (n := 2) rfl rfl rfl rfl ?_
  refine jp_load (pc2 := 14) (n := 3) rfl rfl rfl rfl ?_
  exact jp_virt0 (pc2 := 17) (As := [(.int x_1), (.int x_2), (.int x_3)]) (rest := []) rfl rfl rfl (Nat.le_of_ble_eq_true rfl) e2 m3 m4 hc rfl K
theorem b78_17 {o_0 : Option Value} {x_1 : Int32} {x_2 : Int32} {x_3 : Int32} {r_4 : Nat} {sx_0 : Int32}  (K1 : sx_0 = 0 → ip sc call 78 MC MS Q 31 [o_0, some (.int x_1), some (.int x_2), some (.int x_3), some (.ref r_4)] [] h z c s) (K2 : ¬ (sx_0 = 0) → ip sc call 78 MC MS Q 20 [o_0, some (.int x_1), some (.int x_2), some (.int x_3), some (.ref r_4)] [] h z c s) : ip sc call 78 MC MS Q 17 [o_0, some (.int x_1), some (.int x_2), some (.int x_3), some (.ref r_4)] [(.int sx_0)] h z c s := by
  exact jp_if0 (pc2 := 20) rfl rfl K1 K2
theorem b78_20 {o_0 : Option Value} {x_1 : Int32} {x_2 : Int32} {x_3 : Int32} {r_4 : Nat} {fs1 : List Value} {P : ipQ} (e2 : h r_4 = some (.inr (6, fs1))) (m3 : c ≤ MC) (m4 : s ≤ MS) (hc : call 42 [(.ref r_4), (.int x_1), (.int x_2), (.int x_3)] h z 0 0 P) (K : ∀ (o : Option Value) (h2 : HP) (z2 : Nat), P o h2 z2 → ip sc call 78 MC MS Q 28 [o_0, some (.int x_1), some (.int x_2), some (.int x_3), some (.ref r_4)] (o.toList ++ []) h2 z2 c s) : ip sc call 78 MC MS Q 20 [o_0, some (.int x_1), some (.int x_2), some (.int x_3), some (.ref r_4)] [] h z c s := by
  refine jp_load (pc2 := 22) (n := 4) rfl rfl rfl rfl ?_
  refine jp_load (pc2 := 23) (n := 1) rfl rfl rfl rfl ?_
  refine jp_load (pc2 := 24) (n := 2) rfl rfl rfl rfl ?_
  refine jp_load (pc2 := 25) (n := 3) rfl rfl rfl rfl ?_
  exact jp_virt0 (pc2 := 28) (As := [(.int x_1), (.int x_2), (.int x_3)]) (rest := []) rfl rfl rfl (Nat.le_of_ble_eq_true rfl) e2 m3 m4 hc rfl K
theorem b78_28 {o_0 : Option Value} {o_1 : Option Value} {o_2 : Option Value} {o_3 : Option Value} {o_4 : Option Value} {sx_0 : Int32}  (K : ip sc call 78 MC MS Q 32 [o_0, o_1, o_2, o_3, o_4] [(.int sx_0)] h z c s) : ip sc call 78 MC MS Q 28 [o_0, o_1, o_2, o_3, o_4] [(.int sx_0)] h z c s := by
  refine ip_goto rfl ?_
  exact K
theorem b78_31 {o_0 : Option Value} {o_1 : Option Value} {o_2 : Option Value} {o_3 : Option Value} {o_4 : Option Value}  (K : ip sc call 78 MC MS Q 32 [o_0, o_1, o_2, o_3, o_4] [(.int ((-1)))] h z c s) : ip sc call 78 MC MS Q 31 [o_0, o_1, o_2, o_3, o_4] [] h z c s := by
  refine jp_con (pc2 := 32) (v := .int (-1)) rfl rfl rfl ?_
  exact K
theorem b78_32 {o_0 : Option Value} {o_1 : Option Value} {o_2 : Option Value} {o_3 : Option Value} {o_4 : Option Value} {sx_0 : Int32} (q1 : Q (some (.int sx_0)) h z)  : ip sc call 78 MC MS Q 32 [o_0, o_1, o_2, o_3, o_4] [(.int sx_0)] h z c s := by
  exact ip_iret (st := []) rfl rfl rfl q1
theorem b79_0 {r_0 : Nat} {x_1 : Int32} {o_2 : Option Value} {fs1 : List Value} {q_fs1_0 : Nat} {fs4 : List Value} {P : ipQ} (e2 : h r_0 = some (.inr (8, fs1))) (e3 : fs1[0]? = some (.ref q_fs1_0)) (e5 : h q_fs1_0 = some (.inr (0, fs4))) (m6 : c ≤ MC) (m7 : s ≤ MS) (hc : call 1 [(.ref q_fs1_0)] h z 0 0 P) (K : ∀ (o : Option Value) (h2 : HP) (z2 : Nat), P o h2 z2 → ip sc call 79 MC MS Q 7 [some (.ref r_0), some (.int x_1), o_2] (o.toList ++ []) h2 z2 c s) : ip sc call 79 MC MS Q 0 [some (.ref r_0), some (.int x_1), o_2] [] h z c s := by
  refine jp_load (pc2 := 1) (n := 0) rfl rfl rfl rfl ?_
  refine jp_getf (pc2 := 4) rfl rfl e2 e3 ?_
  exact jp_virt0 (pc2 := 7) (As := []) (rest := []) rfl rfl rfl (Nat.le_of_ble_eq_true rfl) e5 m6 m7 hc rfl K
theorem b79_7 {o_0 : Option Value} {x_1 : Int32} {o_2 : Option Value} {sr_0 : Nat}  (K1 : x_1 < 0 → ip sc call 79 MC MS Q 29 [o_0, some (.int x_1), some (.ref sr_0)] [] h z c s) (K2 : ¬ (x_1 < 0) → ip sc call 79 MC MS Q 12 [o_0, some (.int x_1), some (.ref sr_0)] [] h z c s) : ip sc call 79 MC MS Q 7 [o_0, some (.int x_1), o_2] [(.ref sr_0)] h z c s := by
  refine jp_store (pc2 := 8) (n := 2) rfl rfl ⟨rfl, rfl⟩ rfl (Nat.le_of_ble_eq_true rfl) ?_
  refine jp_load (pc2 := 9) (n := 1) rfl rfl rfl rfl ?_
  exact jp_if0 (pc2 := 12) rfl rfl K1 K2
theorem b79_12 {o_0 : Option Value} {x_1 : Int32} {r_2 : Nat} {fs1 : List Value} {v_fs1_8 : Int32} (e2 : h r_2 = some (.inr (6, fs1))) (e3 : fs1[8]? = some (.int v_fs1_8)) (K1 : v_fs1_8 ≤ x_1 → ip sc call 79 MC MS Q 29 [o_0, some (.int x_1), some (.ref r_2)] [] h z c s) (K2 : ¬ (v_fs1_8 ≤ x_1) → ip sc call 79 MC MS Q 20 [o_0, some (.int x_1), some (.ref r_2)] [] h z c s) : ip sc call 79 MC MS Q 12 [o_0, some (.int x_1), some (.ref r_2)] [] h z c s := by
  refine jp_load (pc2 := 13) (n := 1) rfl rfl rfl rfl ?_
  refine jp_load (pc2 := 14) (n := 2) rfl rfl rfl rfl ?_
  refine jp_getf (pc2 := 17) rfl rfl e2 e3 ?_
  exact jp_icmp (pc2 := 20) rfl rfl K1 K2
theorem b79_20 {o_0 : Option Value} {x_1 : Int32} {r_2 : Nat} {fs1 : List Value} {q_fs1_4 : Nat} {n4 : Nat} {f5 : Nat → Int32} (e2 : h r_2 = some (.inr (6, fs1))) (e3 : fs1[4]? = some (.ref q_fs1_4)) (e6 : h q_fs1_4 = some (.inl (0, n4, .inl f5))) (b7 : vp_in x_1 n4) (K : ip sc call 79 MC MS Q 30 [o_0, some (.int x_1), some (.ref r_2)] [(.int (f5 x_1.toNatClampNeg))] h z c s) : ip sc call 79 MC MS Q 20 [o_0, some (.int x_1), some (.ref r_2)] [] h z c s := by
  refine jp_load (pc2 := 21) (n := 2) rfl rfl rfl rfl ?_
  refine jp_getf (pc2 := 24) rfl rfl e2 e3 ?_
  refine jp_load (pc2 := 25) (n := 1) rfl rfl rfl rfl ?_
  refine jp_iald (pc2 := 26) rfl rfl e6 b7 ?_
  refine ip_goto rfl ?_
  exact K
theorem b79_29 {o_0 : Option Value} {o_1 : Option Value} {o_2 : Option Value}  (K : ip sc call 79 MC MS Q 30 [o_0, o_1, o_2] [(.int ((-1)))] h z c s) : ip sc call 79 MC MS Q 29 [o_0, o_1, o_2] [] h z c s := by
  refine jp_con (pc2 := 30) (v := .int (-1)) rfl rfl rfl ?_
  exact K
theorem b79_30 {o_0 : Option Value} {o_1 : Option Value} {o_2 : Option Value} {sx_0 : Int32} (q1 : Q (some (.int sx_0)) h z)  : ip sc call 79 MC MS Q 30 [o_0, o_1, o_2] [(.int sx_0)] h z c s := by
  exact ip_iret (st := []) rfl rfl rfl q1
theorem b80_0 {r_0 : Nat} {x_1 : Int32} {x_2 : Int32} {x_3 : Int32} {x_4 : Int32} {x_5 : Int32} {x_6 : Int32} {fs1 : List Value} {q_fs1_2 : Nat} {fs4 : List Value} {q_fs1_0 : Nat} {fs9 : List Value} {P : ipQ} (e2 : h r_0 = some (.inr (8, fs1))) (e3 : fs1[2]? = some (.ref q_fs1_2)) (e5 : h q_fs1_2 = some (.inr (2, fs4))) (l6 : fs4.length = 6) (n7 : r_0 ≠ q_fs1_2) (e8 : fs1[0]? = some (.ref q_fs1_0)) (e10 : h q_fs1_0 = some (.inr (0, fs9))) (n11 : q_fs1_0 ≠ q_fs1_2) (m12 : c ≤ MC) (m13 : s ≤ MS) (hc : call 1 [(.ref q_fs1_0)] (hup (hup (hup (hup (hup (hup h q_fs1_2 (.inr (2, (fs4.set 0 (.int x_1))))) q_fs1_2 (.inr (2, ((fs4.set 0 (.int x_1)).set 1 (.int x_2))))) q_fs1_2 (.inr (2, (((fs4.set 0 (.int x_1)).set 1 (.int x_2)).set 2 (.int x_3))))) q_fs1_2 (.inr (2, ((((fs4.set 0 (.int x_1)).set 1 (.int x_2)).set 2 (.int x_3)).set 3 (.int x_4))))) q_fs1_2 (.inr (2, (((((fs4.set 0 (.int x_1)).set 1 (.int x_2)).set 2 (.int x_3)).set 3 (.int x_4)).set 4 (.int x_5))))) q_fs1_2 (.inr (2, ((((((fs4.set 0 (.int x_1)).set 1 (.int x_2)).set 2 (.int x_3)).set 3 (.int x_4)).set 4 (.int x_5)).set 5 (.int x_6))))) z 0 0 P) (K : ∀ (o : Option Value) (h2 : HP) (z2 : Nat), P o h2 z2 → ip sc call 80 MC MS Q 58 [some (.ref r_0), some (.int x_1), some (.int x_2), some (.int x_3), some (.int x_4), some (.int x_5), some (.int x_6)] (o.toList ++ []) h2 z2 c s) : ip sc call 80 MC MS Q 0 [some (.ref r_0), some (.int x_1), some (.int x_2), some (.int x_3), some (.int x_4), some (.int x_5), some (.int x_6)] [] h z c s := by
  refine jp_load (pc2 := 1) (n := 0) rfl rfl rfl rfl ?_
  refine jp_getf (pc2 := 4) rfl rfl e2 e3 ?_
  refine jp_load (pc2 := 5) (n := 1) rfl rfl rfl rfl ?_
  refine jp_putf (pc2 := 8) rfl rfl e5 (ln_lt l6 (by decide)) ⟨rfl, rfl⟩ ?_
  refine jp_load (pc2 := 9) (n := 0) rfl rfl rfl rfl ?_
  refine jp_getf (pc2 := 12) rfl rfl (hup_ne n7 e2) e3 ?_
  refine jp_load (pc2 := 13) (n := 2) rfl rfl rfl rfl ?_
  refine jp_putf (pc2 := 16) rfl rfl hup_eq (ls_lt (ln_lt l6 (by decide))) ⟨rfl, rfl⟩ ?_
  refine jp_load (pc2 := 17) (n := 0) rfl rfl rfl rfl ?_
  refine jp_getf (pc2 := 20) rfl rfl (hup_ne n7 (hup_ne n7 e2)) e3 ?_
  refine jp_load (pc2 := 21) (n := 3) rfl rfl rfl rfl ?_
  refine jp_putf (pc2 := 24) rfl rfl hup_eq (ls_lt (ls_lt (ln_lt l6 (by decide)))) ⟨rfl, rfl⟩ ?_
  refine jp_load (pc2 := 25) (n := 0) rfl rfl rfl rfl ?_
  refine jp_getf (pc2 := 28) rfl rfl (hup_ne n7 (hup_ne n7 (hup_ne n7 e2))) e3 ?_
  refine jp_load (pc2 := 30) (n := 4) rfl rfl rfl rfl ?_
  refine jp_putf (pc2 := 33) rfl rfl hup_eq (ls_lt (ls_lt (ls_lt (ln_lt l6 (by decide))))) ⟨rfl, rfl⟩ ?_
  refine jp_load (pc2 := 34) (n := 0) rfl rfl rfl rfl ?_
  refine jp_getf (pc2 := 37) rfl rfl (hup_ne n7 (hup_ne n7 (hup_ne n7 (hup_ne n7 e2)))) e3 ?_
  refine jp_load (pc2 := 39) (n := 5) rfl rfl rfl rfl ?_
  refine jp_putf (pc2 := 42) rfl rfl hup_eq (ls_lt (ls_lt (ls_lt (ls_lt (ln_lt l6 (by decide)))))) ⟨rfl, rfl⟩ ?_
  refine jp_load (pc2 := 43) (n := 0) rfl rfl rfl rfl ?_
  refine jp_getf (pc2 := 46) rfl rfl (hup_ne n7 (hup_ne n7 (hup_ne n7 (hup_ne n7 (hup_ne n7 e2))))) e3 ?_
  refine jp_load (pc2 := 48) (n := 6) rfl rfl rfl rfl ?_
  refine jp_putf (pc2 := 51) rfl rfl hup_eq (ls_lt (ls_lt (ls_lt (ls_lt (ls_lt (ln_lt l6 (by decide))))))) ⟨rfl, rfl⟩ ?_
  refine jp_load (pc2 := 52) (n := 0) rfl rfl rfl rfl ?_
  refine jp_getf (pc2 := 55) rfl rfl (hup_ne n7 (hup_ne n7 (hup_ne n7 (hup_ne n7 (hup_ne n7 (hup_ne n7 e2)))))) e8 ?_
  exact jp_virt0 (pc2 := 58) (As := []) (rest := []) rfl rfl rfl (Nat.le_of_ble_eq_true rfl) (hup_ne n11 (hup_ne n11 (hup_ne n11 (hup_ne n11 (hup_ne n11 (hup_ne n11 e10)))))) m12 m13 hc rfl K
theorem b80_58 {r_0 : Nat} {o_1 : Option Value} {o_2 : Option Value} {o_3 : Option Value} {o_4 : Option Value} {o_5 : Option Value} {o_6 : Option Value} {sr_0 : Nat} {fs1 : List Value} {q_fs1_2 : Nat} {fs4 : List Value} {P : ipQ} (e2 : h r_0 = some (.inr (8, fs1))) (e3 : fs1[2]? = some (.ref q_fs1_2)) (e5 : h sr_0 = some (.inr (6, fs4))) (m6 : c ≤ MC) (m7 : s ≤ MS) (hc : call 45 [(.ref sr_0), (.ref q_fs1_2)] h z 0 0 P) (K : ∀ (o : Option Value) (h2 : HP) (z2 : Nat), P o h2 z2 → ip sc call 80 MC MS Q 65 [some (.ref r_0), o_1, o_2, o_3, o_4, o_5, o_6] (o.toList ++ []) h2 z2 c s) : ip sc call 80 MC MS Q 58 [some (.ref r_0), o_1, o_2, o_3, o_4, o_5, o_6] [(.ref sr_0)] h z c s := by
  refine jp_load (pc2 := 59) (n := 0) rfl rfl rfl rfl ?_
  refine jp_getf (pc2 := 62) rfl rfl e2 e3 ?_
  exact jp_virt0 (pc2 := 65) (As := [(.ref q_fs1_2)]) (rest := []) rfl rfl rfl (Nat.le_of_ble_eq_true rfl) e5 m6 m7 hc rfl K
theorem b80_65 {r_0 : Nat} {o_1 : Option Value} {o_2 : Option Value} {o_3 : Option Value} {o_4 : Option Value} {o_5 : Option Value} {o_6 : Option Value} {sx_0 : Int32}  (K1 : sx_0 = 0 → ip sc call 80 MC MS Q 82 [some (.ref r_0), o_1, o_2, o_3, o_4, o_5, o_6] [] h z c s) (K2 : ¬ (sx_0 = 0) → ip sc call 80 MC MS Q 68 [some (.ref r_0), o_1, o_2, o_3, o_4, o_5, o_6] [] h z c s) : ip sc call 80 MC MS Q 65 [some (.ref r_0), o_1, o_2, o_3, o_4, o_5, o_6] [(.int sx_0)] h z c s := by
  exact jp_if0 (pc2 := 68) rfl rfl K1 K2
theorem b80_68 {r_0 : Nat} {o_1 : Option Value} {o_2 : Option Value} {o_3 : Option Value} {o_4 : Option Value} {o_5 : Option Value} {o_6 : Option Value} {fs1 : List Value} {q_fs1_0 : Nat} {q_fs1_2 : Nat} {fs5 : List Value} {P : ipQ} (e2 : h r_0 = some (.inr (8, fs1))) (e3 : fs1[0]? = some (.ref q_fs1_0)) (e4 : fs1[2]? = some (.ref q_fs1_2)) (e6 : h q_fs1_0 = some (.inr (0, fs5))) (m7 : c ≤ MC) (m8 : s ≤ MS) (hc : call 3 [(.ref q_fs1_0), (.ref q_fs1_2)] h z 0 0 P) (K : ∀ (o : Option Value) (h2 : HP) (z2 : Nat), P o h2 z2 → ip sc call 80 MC MS Q 79 [some (.ref r_0), o_1, o_2, o_3, o_4, o_5, o_6] (o.toList ++ []) h2 z2 c s) : ip sc call 80 MC MS Q 68 [some (.ref r_0), o_1, o_2, o_3, o_4, o_5, o_6] [] h z c s := by
  refine jp_load (pc2 := 69) (n := 0) rfl rfl rfl rfl ?_
  refine jp_getf (pc2 := 72) rfl rfl e2 e3 ?_
  refine jp_load (pc2 := 73) (n := 0) rfl rfl rfl rfl ?_
  refine jp_getf (pc2 := 76) rfl rfl e2 e4 ?_
  exact jp_virt0 (pc2 := 79) (As := [(.ref q_fs1_2)]) (rest := []) rfl rfl rfl (Nat.le_of_ble_eq_true rfl) e6 m7 m8 hc rfl K
theorem b80_79 {o_0 : Option Value} {o_1 : Option Value} {o_2 : Option Value} {o_3 : Option Value} {o_4 : Option Value} {o_5 : Option Value} {o_6 : Option Value} {sx_0 : Int32}  (K : ip sc call 80 MC MS Q 83 [o_0, o_1, o_2, o_3, o_4, o_5, o_6] [(.int sx_0)] h z c s) : ip sc call 80 MC MS Q 79 [o_0, o_1, o_2, o_3, o_4, o_5, o_6] [(.int sx_0)] h z c s := by
  refine ip_goto rfl ?_
  exact K
theorem b80_82 {o_0 : Option Value} {o_1 : Option Value} {o_2 : Option Value} {o_3 : Option Value} {o_4 : Option Value} {o_5 : Option Value} {o_6 : Option Value}  (K : ip sc call 80 MC MS Q 83 [o_0, o_1, o_2, o_3, o_4, o_5, o_6] [(.int ((-1)))] h z c s) : ip sc call 80 MC MS Q 82 [o_0, o_1, o_2, o_3, o_4, o_5, o_6] [] h z c s := by
  refine jp_con (pc2 := 83) (v := .int (-1)) rfl rfl rfl ?_
  exact K
theorem b80_83 {o_0 : Option Value} {o_1 : Option Value} {o_2 : Option Value} {o_3 : Option Value} {o_4 : Option Value} {o_5 : Option Value} {o_6 : Option Value} {sx_0 : Int32} (q1 : Q (some (.int sx_0)) h z)  : ip sc call 80 MC MS Q 83 [o_0, o_1, o_2, o_3, o_4, o_5, o_6] [(.int sx_0)] h z c s := by
  exact ip_iret (st := []) rfl rfl rfl q1
theorem b81_0 {r_0 : Nat} {o_1 : Option Value} {o_2 : Option Value} {o_3 : Option Value} {fs1 : List Value} {q_fs1_0 : Nat} {fs4 : List Value} {P : ipQ} (e2 : h r_0 = some (.inr (8, fs1))) (e3 : fs1[0]? = some (.ref q_fs1_0)) (e5 : h q_fs1_0 = some (.inr (0, fs4))) (m6 : c ≤ MC) (m7 : s ≤ MS) (hc : call 1 [(.ref q_fs1_0)] h z 0 0 P) (K : ∀ (o : Option Value) (h2 : HP) (z2 : Nat), P o h2 z2 → ip sc call 81 MC MS Q 7 [some (.ref r_0), o_1, o_2, o_3] (o.toList ++ []) h2 z2 c s) : ip sc call 81 MC MS Q 0 [some (.ref r_0), o_1, o_2, o_3] [] h z c s := by
  refine jp_load (pc2 := 1) (n := 0) rfl rfl rfl rfl ?_
  refine jp_getf (pc2 := 4) rfl rfl e2 e3 ?_
  exact jp_virt0 (pc2 := 7) (As := []) (rest := []) rfl rfl rfl (Nat.le_of_ble_eq_true rfl) e5 m6 m7 hc rfl K
theorem b81_7 {r_0 : Nat} {o_1 : Option Value} {o_2 : Option Value} {o_3 : Option Value} {sr_0 : Nat} {fs1 : List Value} {q_fs1_2 : Nat} {fs4 : List Value} {P : ipQ} (e2 : h r_0 = some (.inr (8, fs1))) (e3 : fs1[2]? = some (.ref q_fs1_2)) (e5 : h q_fs1_2 = some (.inr (2, fs4))) (m6 : c ≤ MC) (m7 : s ≤ MS) (hc : call 11 [(.ref q_fs1_2)] h z 0 0 P) (K : ∀ (o : Option Value) (h2 : HP) (z2 : Nat), P o h2 z2 → ip sc call 81 MC MS Q 17 [some (.ref r_0), some (.ref sr_0), some (.int 0), o_3] (o.toList ++ []) h2 z2 c s) : ip sc call 81 MC MS Q 7 [some (.ref r_0), o_1, o_2, o_3] [(.ref sr_0)] h z c s := by
  refine jp_store (pc2 := 8) (n := 1) rfl rfl ⟨rfl, rfl⟩ rfl (Nat.le_of_ble_eq_true rfl) ?_
  refine jp_con (pc2 := 9) (v := .int 0) rfl rfl rfl ?_
  refine jp_store (pc2 := 10) (n := 2) rfl rfl ⟨rfl, rfl⟩ rfl (Nat.le_of_ble_eq_true rfl) ?_
  refine jp_load (pc2 := 11) (n := 0) rfl rfl rfl rfl ?_
  refine jp_getf (pc2 := 14) rfl rfl e2 e3 ?_
  exact jp_virt0 (pc2 := 17) (As := []) (rest := []) rfl rfl rfl (Nat.le_of_ble_eq_true rfl) e5 m6 m7 hc rfl K
theorem b81_17 {r_0 : Nat} {r_1 : Nat} {x_2 : Int32} {o_3 : Option Value}  (K : ip sc call 81 MC MS Q 19 [some (.ref r_0), some (.ref r_1), some (.int x_2), some (.int 0)] [] h z c s) : ip sc call 81 MC MS Q 17 [some (.ref r_0), some (.ref r_1), some (.int x_2), o_3] [] h z c s := by
  refine jp_con (pc2 := 18) (v := .int 0) rfl rfl rfl ?_
  refine jp_store (pc2 := 19) (n := 3) rfl rfl ⟨rfl, rfl⟩ rfl (Nat.le_of_ble_eq_true rfl) ?_
  exact K
theorem b81_19 {r_0 : Nat} {r_1 : Nat} {x_2 : Int32} {x_3 : Int32}  (K1 : (1000000 : Int32) ≤ x_3 → ip sc call 81 MC MS Q 53 [some (.ref r_0), some (.ref r_1), some (.int x_2), some (.int x_3)] [] h z c s) (K2 : ¬ ((1000000 : Int32) ≤ x_3) → ip sc call 81 MC MS Q 25 [some (.ref r_0), some (.ref r_1), some (.int x_2), some (.int x_3)] [] h z c s) : ip sc call 81 MC MS Q 19 [some (.ref r_0), some (.ref r_1), some (.int x_2), some (.int x_3)] [] h z c s := by
  refine jp_load (pc2 := 20) (n := 3) rfl rfl rfl rfl ?_
  refine jp_con (pc2 := 22) (v := .int 1000000) rfl rfl rfl ?_
  exact jp_icmp (pc2 := 25) rfl rfl K1 K2
theorem b81_25 {r_0 : Nat} {r_1 : Nat} {x_2 : Int32} {x_3 : Int32} {fs1 : List Value} {q_fs1_2 : Nat} {fs4 : List Value} {P : ipQ} (e2 : h r_0 = some (.inr (8, fs1))) (e3 : fs1[2]? = some (.ref q_fs1_2)) (e5 : h r_1 = some (.inr (6, fs4))) (m6 : c ≤ MC) (m7 : s ≤ MS) (hc : call 46 [(.ref r_1), (.ref q_fs1_2)] h z 0 0 P) (K : ∀ (o : Option Value) (h2 : HP) (z2 : Nat), P o h2 z2 → ip sc call 81 MC MS Q 33 [some (.ref r_0), some (.ref r_1), some (.int x_2), some (.int x_3)] (o.toList ++ []) h2 z2 c s) : ip sc call 81 MC MS Q 25 [some (.ref r_0), some (.ref r_1), some (.int x_2), some (.int x_3)] [] h z c s := by
  refine jp_load (pc2 := 26) (n := 1) rfl rfl rfl rfl ?_
  refine jp_load (pc2 := 27) (n := 0) rfl rfl rfl rfl ?_
  refine jp_getf (pc2 := 30) rfl rfl e2 e3 ?_
  exact jp_virt0 (pc2 := 33) (As := [(.ref q_fs1_2)]) (rest := []) rfl rfl rfl (Nat.le_of_ble_eq_true rfl) e5 m6 m7 hc rfl K
theorem b81_33 {r_0 : Nat} {r_1 : Nat} {x_2 : Int32} {x_3 : Int32} {sx_0 : Int32}  (K1 : sx_0 = 0 → ip sc call 81 MC MS Q 53 [some (.ref r_0), some (.ref r_1), some (.int x_2), some (.int x_3)] [] h z c s) (K2 : ¬ (sx_0 = 0) → ip sc call 81 MC MS Q 36 [some (.ref r_0), some (.ref r_1), some (.int x_2), some (.int x_3)] [] h z c s) : ip sc call 81 MC MS Q 33 [some (.ref r_0), some (.ref r_1), some (.int x_2), some (.int x_3)] [(.int sx_0)] h z c s := by
  exact jp_if0 (pc2 := 36) rfl rfl K1 K2
theorem b81_36 {r_0 : Nat} {r_1 : Nat} {x_2 : Int32} {x_3 : Int32} {fs1 : List Value} {q_fs1_2 : Nat} {fs4 : List Value} {P : ipQ} (e2 : h r_0 = some (.inr (8, fs1))) (e3 : fs1[2]? = some (.ref q_fs1_2)) (e5 : h r_1 = some (.inr (6, fs4))) (m6 : c ≤ MC) (m7 : s ≤ MS) (hc : call 44 [(.ref r_1), (.ref q_fs1_2)] h z 0 0 P) (K : ∀ (o : Option Value) (h2 : HP) (z2 : Nat), P o h2 z2 → ip sc call 81 MC MS Q 45 [some (.ref r_0), some (.ref r_1), some (.int x_2), some (.int x_3)] (o.toList ++ [(.int x_2)]) h2 z2 c s) : ip sc call 81 MC MS Q 36 [some (.ref r_0), some (.ref r_1), some (.int x_2), some (.int x_3)] [] h z c s := by
  refine jp_load (pc2 := 37) (n := 2) rfl rfl rfl rfl ?_
  refine jp_load (pc2 := 38) (n := 1) rfl rfl rfl rfl ?_
  refine jp_load (pc2 := 39) (n := 0) rfl rfl rfl rfl ?_
  refine jp_getf (pc2 := 42) rfl rfl e2 e3 ?_
  exact jp_virt0 (pc2 := 45) (As := [(.ref q_fs1_2)]) (rest := [(.int x_2)]) rfl rfl rfl (Nat.le_of_ble_eq_true rfl) e5 m6 m7 hc rfl K
theorem b81_45 {r_0 : Nat} {r_1 : Nat} {o_2 : Option Value} {x_3 : Int32} {sx_0 : Int32} {sx_1 : Int32}  (K : ip sc call 81 MC MS Q 19 [some (.ref r_0), some (.ref r_1), some (.int (sx_0 + sx_1)), some (.int (x_3 + 1))] [] h z c s) : ip sc call 81 MC MS Q 45 [some (.ref r_0), some (.ref r_1), o_2, some (.int x_3)] [(.int sx_1), (.int sx_0)] h z c s := by
  refine jp_bin (pc2 := 46) (v := sx_0 + sx_1) rfl rfl rfl ?_
  refine jp_store (pc2 := 47) (n := 2) rfl rfl ⟨rfl, rfl⟩ rfl (Nat.le_of_ble_eq_true rfl) ?_
  refine jp_iinc (pc2 := 50) (n := 3) (v := x_3 + 1) rfl rfl rfl rfl rfl ?_
  refine ip_goto rfl ?_
  exact K
theorem b81_53 {o_0 : Option Value} {o_1 : Option Value} {x_2 : Int32} {o_3 : Option Value} (q1 : Q (some (.int x_2)) h z)  : ip sc call 81 MC MS Q 53 [o_0, o_1, some (.int x_2), o_3] [] h z c s := by
  refine jp_load (pc2 := 54) (n := 2) rfl rfl rfl rfl ?_
  exact ip_iret (st := []) rfl rfl rfl q1
theorem b82_0 {r_0 : Nat} {x_1 : Int32} {fs1 : List Value} {q_fs1_0 : Nat} {fs4 : List Value} {P : ipQ} (e2 : h r_0 = some (.inr (8, fs1))) (e3 : fs1[0]? = some (.ref q_fs1_0)) (e5 : h q_fs1_0 = some (.inr (0, fs4))) (m6 : c ≤ MC) (m7 : s ≤ MS) (hc : call 1 [(.ref q_fs1_0)] h z 0 0 P) (K : ∀ (o : Option Value) (h2 : HP) (z2 : Nat), P o h2 z2 → ip sc call 82 MC MS Q 7 [some (.ref r_0), some (.int x_1)] (o.toList ++ []) h2 z2 c s) : ip sc call 82 MC MS Q 0 [some (.ref r_0), some (.int x_1)] [] h z c s := by
  refine jp_load (pc2 := 1) (n := 0) rfl rfl rfl rfl ?_
  refine jp_getf (pc2 := 4) rfl rfl e2 e3 ?_
  exact jp_virt0 (pc2 := 7) (As := []) (rest := []) rfl rfl rfl (Nat.le_of_ble_eq_true rfl) e5 m6 m7 hc rfl K
theorem b82_7 {r_0 : Nat} {x_1 : Int32} {sr_0 : Nat} {fs1 : List Value} {q_fs1_2 : Nat} {fs4 : List Value} {P : ipQ} (e2 : h r_0 = some (.inr (8, fs1))) (e3 : fs1[2]? = some (.ref q_fs1_2)) (e5 : h sr_0 = some (.inr (6, fs4))) (m6 : c ≤ MC) (m7 : s ≤ MS) (hc : call 48 [(.ref sr_0), (.int x_1), (.ref q_fs1_2)] h z 0 0 P) (K : ∀ (o : Option Value) (h2 : HP) (z2 : Nat), P o h2 z2 → ip sc call 82 MC MS Q 15 [some (.ref r_0), some (.int x_1)] (o.toList ++ []) h2 z2 c s) : ip sc call 82 MC MS Q 7 [some (.ref r_0), some (.int x_1)] [(.ref sr_0)] h z c s := by
  refine jp_load (pc2 := 8) (n := 1) rfl rfl rfl rfl ?_
  refine jp_load (pc2 := 9) (n := 0) rfl rfl rfl rfl ?_
  refine jp_getf (pc2 := 12) rfl rfl e2 e3 ?_
  exact jp_virt0 (pc2 := 15) (As := [(.int x_1), (.ref q_fs1_2)]) (rest := []) rfl rfl rfl (Nat.le_of_ble_eq_true rfl) e5 m6 m7 hc rfl K
theorem b82_15 {r_0 : Nat} {o_1 : Option Value} {sx_0 : Int32}  (K1 : sx_0 = 0 → ip sc call 82 MC MS Q 32 [some (.ref r_0), o_1] [] h z c s) (K2 : ¬ (sx_0 = 0) → ip sc call 82 MC MS Q 18 [some (.ref r_0), o_1] [] h z c s) : ip sc call 82 MC MS Q 15 [some (.ref r_0), o_1] [(.int sx_0)] h z c s := by
  exact jp_if0 (pc2 := 18) rfl rfl K1 K2
theorem b82_18 {r_0 : Nat} {o_1 : Option Value} {fs1 : List Value} {q_fs1_0 : Nat} {q_fs1_2 : Nat} {fs5 : List Value} {P : ipQ} (e2 : h r_0 = some (.inr (8, fs1))) (e3 : fs1[0]? = some (.ref q_fs1_0)) (e4 : fs1[2]? = some (.ref q_fs1_2)) (e6 : h q_fs1_0 = some (.inr (0, fs5))) (m7 : c ≤ MC) (m8 : s ≤ MS) (hc : call 3 [(.ref q_fs1_0), (.ref q_fs1_2)] h z 0 0 P) (K : ∀ (o : Option Value) (h2 : HP) (z2 : Nat), P o h2 z2 → ip sc call 82 MC MS Q 29 [some (.ref r_0), o_1] (o.toList ++ []) h2 z2 c s) : ip sc call 82 MC MS Q 18 [some (.ref r_0), o_1] [] h z c s := by
  refine jp_load (pc2 := 19) (n := 0) rfl rfl rfl rfl ?_
  refine jp_getf (pc2 := 22) rfl rfl e2 e3 ?_
  refine jp_load (pc2 := 23) (n := 0) rfl rfl rfl rfl ?_
  refine jp_getf (pc2 := 26) rfl rfl e2 e4 ?_
  exact jp_virt0 (pc2 := 29) (As := [(.ref q_fs1_2)]) (rest := []) rfl rfl rfl (Nat.le_of_ble_eq_true rfl) e6 m7 m8 hc rfl K
theorem b82_29 {o_0 : Option Value} {o_1 : Option Value} {sx_0 : Int32}  (K : ip sc call 82 MC MS Q 33 [o_0, o_1] [(.int sx_0)] h z c s) : ip sc call 82 MC MS Q 29 [o_0, o_1] [(.int sx_0)] h z c s := by
  refine ip_goto rfl ?_
  exact K
theorem b82_32 {o_0 : Option Value} {o_1 : Option Value}  (K : ip sc call 82 MC MS Q 33 [o_0, o_1] [(.int ((-1)))] h z c s) : ip sc call 82 MC MS Q 32 [o_0, o_1] [] h z c s := by
  refine jp_con (pc2 := 33) (v := .int (-1)) rfl rfl rfl ?_
  exact K
theorem b82_33 {o_0 : Option Value} {o_1 : Option Value} {sx_0 : Int32} (q1 : Q (some (.int sx_0)) h z)  : ip sc call 82 MC MS Q 33 [o_0, o_1] [(.int sx_0)] h z c s := by
  exact ip_iret (st := []) rfl rfl rfl q1
theorem b83_0 {r_0 : Nat} {x_1 : Int32} {x_2 : Int32} {fs1 : List Value} {q_fs1_0 : Nat} {fs4 : List Value} {P : ipQ} (e2 : h r_0 = some (.inr (8, fs1))) (e3 : fs1[0]? = some (.ref q_fs1_0)) (e5 : h q_fs1_0 = some (.inr (0, fs4))) (m6 : c ≤ MC) (m7 : s ≤ MS) (hc : call 1 [(.ref q_fs1_0)] h z 0 0 P) (K : ∀ (o : Option Value) (h2 : HP) (z2 : Nat), P o h2 z2 → ip sc call 83 MC MS Q 7 [some (.ref r_0), some (.int x_1), some (.int x_2)] (o.toList ++ []) h2 z2 c s) : ip sc call 83 MC MS Q 0 [some (.ref r_0), some (.int x_1), some (.int x_2)] [] h z c s := by
  refine jp_load (pc2 := 1) (n := 0) rfl rfl rfl rfl ?_
  refine jp_getf (pc2 := 4) rfl rfl e2 e3 ?_
  exact jp_virt0 (pc2 := 7) (As := []) (rest := []) rfl rfl rfl (Nat.le_of_ble_eq_true rfl) e5 m6 m7 hc rfl K
theorem b83_7 {r_0 : Nat} {x_1 : Int32} {x_2 : Int32} {sr_0 : Nat} {fs1 : List Value} {q_fs1_2 : Nat} {fs4 : List Value} {P : ipQ} (e2 : h r_0 = some (.inr (8, fs1))) (e3 : fs1[2]? = some (.ref q_fs1_2)) (e5 : h sr_0 = some (.inr (6, fs4))) (m6 : c ≤ MC) (m7 : s ≤ MS) (hc : call 48 [(.ref sr_0), (.int x_1), (.ref q_fs1_2)] h z 0 0 P) (K : ∀ (o : Option Value) (h2 : HP) (z2 : Nat), P o h2 z2 → ip sc call 83 MC MS Q 15 [some (.ref r_0), some (.int x_1), some (.int x_2)] (o.toList ++ []) h2 z2 c s) : ip sc call 83 MC MS Q 7 [some (.ref r_0), some (.int x_1), some (.int x_2)] [(.ref sr_0)] h z c s := by
  refine jp_load (pc2 := 8) (n := 1) rfl rfl rfl rfl ?_
  refine jp_load (pc2 := 9) (n := 0) rfl rfl rfl rfl ?_
  refine jp_getf (pc2 := 12) rfl rfl e2 e3 ?_
  exact jp_virt0 (pc2 := 15) (As := [(.int x_1), (.ref q_fs1_2)]) (rest := []) rfl rfl rfl (Nat.le_of_ble_eq_true rfl) e5 m6 m7 hc rfl K
theorem b83_15 {r_0 : Nat} {o_1 : Option Value} {x_2 : Int32} {sx_0 : Int32}  (K1 : sx_0 = 0 → ip sc call 83 MC MS Q 29 [some (.ref r_0), o_1, some (.int x_2)] [] h z c s) (K2 : ¬ (sx_0 = 0) → ip sc call 83 MC MS Q 18 [some (.ref r_0), o_1, some (.int x_2)] [] h z c s) : ip sc call 83 MC MS Q 15 [some (.ref r_0), o_1, some (.int x_2)] [(.int sx_0)] h z c s := by
  exact jp_if0 (pc2 := 18) rfl rfl K1 K2
theorem b83_18 {r_0 : Nat} {o_1 : Option Value} {x_2 : Int32} {fs1 : List Value} {q_fs1_2 : Nat} {fs4 : List Value} {P : ipQ} (e2 : h r_0 = some (.inr (8, fs1))) (e3 : fs1[2]? = some (.ref q_fs1_2)) (e5 : h q_fs1_2 = some (.inr (2, fs4))) (m6 : c ≤ MC) (m7 : s ≤ MS) (hc : call 13 [(.ref q_fs1_2), (.int x_2)] h z 0 0 P) (K : ∀ (o : Option Value) (h2 : HP) (z2 : Nat), P o h2 z2 → ip sc call 83 MC MS Q 26 [some (.ref r_0), o_1, some (.int x_2)] (o.toList ++ []) h2 z2 c s) : ip sc call 83 MC MS Q 18 [some (.ref r_0), o_1, some (.int x_2)] [] h z c s := by
  refine jp_load (pc2 := 19) (n := 0) rfl rfl rfl rfl ?_
  refine jp_getf (pc2 := 22) rfl rfl e2 e3 ?_
  refine jp_load (pc2 := 23) (n := 2) rfl rfl rfl rfl ?_
  exact jp_virt0 (pc2 := 26) (As := [(.int x_2)]) (rest := []) rfl rfl rfl (Nat.le_of_ble_eq_true rfl) e5 m6 m7 hc rfl K
theorem b83_26 {o_0 : Option Value} {o_1 : Option Value} {o_2 : Option Value} {sx_0 : Int32}  (K : ip sc call 83 MC MS Q 30 [o_0, o_1, o_2] [(.int sx_0)] h z c s) : ip sc call 83 MC MS Q 26 [o_0, o_1, o_2] [(.int sx_0)] h z c s := by
  refine ip_goto rfl ?_
  exact K
theorem b83_29 {o_0 : Option Value} {o_1 : Option Value} {o_2 : Option Value}  (K : ip sc call 83 MC MS Q 30 [o_0, o_1, o_2] [(.int ((-1)))] h z c s) : ip sc call 83 MC MS Q 29 [o_0, o_1, o_2] [] h z c s := by
  refine jp_con (pc2 := 30) (v := .int (-1)) rfl rfl rfl ?_
  exact K
theorem b83_30 {o_0 : Option Value} {o_1 : Option Value} {o_2 : Option Value} {sx_0 : Int32} (q1 : Q (some (.int sx_0)) h z)  : ip sc call 83 MC MS Q 30 [o_0, o_1, o_2] [(.int sx_0)] h z c s := by
  exact ip_iret (st := []) rfl rfl rfl q1
theorem b84_0 {r_0 : Nat} {fs1 : List Value} {q_fs1_0 : Nat} {fs4 : List Value} {P : ipQ} (e2 : h r_0 = some (.inr (8, fs1))) (e3 : fs1[0]? = some (.ref q_fs1_0)) (e5 : h q_fs1_0 = some (.inr (0, fs4))) (m6 : c ≤ MC) (m7 : s ≤ MS) (hc : call 4 [(.ref q_fs1_0)] h z 0 0 P) (K : ∀ (o : Option Value) (h2 : HP) (z2 : Nat), P o h2 z2 → ip sc call 84 MC MS Q 7 [some (.ref r_0)] (o.toList ++ []) h2 z2 c s) : ip sc call 84 MC MS Q 0 [some (.ref r_0)] [] h z c s := by
  refine jp_load (pc2 := 1) (n := 0) rfl rfl rfl rfl ?_
  refine jp_getf (pc2 := 4) rfl rfl e2 e3 ?_
  exact jp_virt0 (pc2 := 7) (As := []) (rest := []) rfl rfl rfl (Nat.le_of_ble_eq_true rfl) e5 m6 m7 hc rfl K
theorem b84_7 {o_0 : Option Value} {sx_0 : Int32} (q1 : Q (some (.int sx_0)) h z)  : ip sc call 84 MC MS Q 7 [o_0] [(.int sx_0)] h z c s := by
  exact ip_iret (st := []) rfl rfl rfl q1
theorem b85_0 {r_0 : Nat} {x_1 : Int32} {x_2 : Int32} {o_3 : Option Value} {fs1 : List Value} {q_fs1_0 : Nat} {fs4 : List Value} {q_fs4_0 : Nat} (e2 : h r_0 = some (.inr (8, fs1))) (e3 : fs1[0]? = some (.ref q_fs1_0)) (e5 : h q_fs1_0 = some (.inr (0, fs4))) (e6 : fs4[0]? = some (.ref q_fs4_0)) (K1 : x_1 < 0 → ip sc call 85 MC MS Q 33 [some (.ref r_0), some (.int x_1), some (.int x_2), some (.ref q_fs4_0)] [] h z c s) (K2 : ¬ (x_1 < 0) → ip sc call 85 MC MS Q 12 [some (.ref r_0), some (.int x_1), some (.int x_2), some (.ref q_fs4_0)] [] h z c s) : ip sc call 85 MC MS Q 0 [some (.ref r_0), some (.int x_1), some (.int x_2), o_3] [] h z c s := by
  refine jp_load (pc2 := 1) (n := 0) rfl rfl rfl rfl ?_
  refine jp_getf (pc2 := 4) rfl rfl e2 e3 ?_
  refine jp_getf (pc2 := 7) rfl rfl e5 e6 ?_
  refine jp_store (pc2 := 8) (n := 3) rfl rfl ⟨rfl, rfl⟩ rfl (Nat.le_of_ble_eq_true rfl) ?_
  refine jp_load (pc2 := 9) (n := 1) rfl rfl rfl rfl ?_
  exact jp_if0 (pc2 := 12) rfl rfl K1 K2
theorem b85_12 {o_0 : Option Value} {x_1 : Int32} {x_2 : Int32} {r_3 : Nat} {fs1 : List Value} {v_fs1_2 : Int32} (e2 : h r_3 = some (.inr (4, fs1))) (e3 : fs1[2]? = some (.int v_fs1_2)) (K1 : v_fs1_2 ≤ x_1 → ip sc call 85 MC MS Q 33 [o_0, some (.int x_1), some (.int x_2), some (.ref r_3)] [] h z c s) (K2 : ¬ (v_fs1_2 ≤ x_1) → ip sc call 85 MC MS Q 20 [o_0, some (.int x_1), some (.int x_2), some (.ref r_3)] [] h z c s) : ip sc call 85 MC MS Q 12 [o_0, some (.int x_1), some (.int x_2), some (.ref r_3)] [] h z c s := by
  refine jp_load (pc2 := 13) (n := 1) rfl rfl rfl rfl ?_
  refine jp_load (pc2 := 14) (n := 3) rfl rfl rfl rfl ?_
  refine jp_getf (pc2 := 17) rfl rfl e2 e3 ?_
  exact jp_icmp (pc2 := 20) rfl rfl K1 K2
theorem b85_20 {o_0 : Option Value} {x_1 : Int32} {x_2 : Int32} {r_3 : Nat} {fs1 : List Value} {q_fs1_0 : Nat} {n4 : Nat} {f5 : Nat → Option Nat} {q8 : Nat} {fs10 : List Value} {P : ipQ} (e2 : h r_3 = some (.inr (4, fs1))) (e3 : fs1[0]? = some (.ref q_fs1_0)) (e6 : h q_fs1_0 = some (.inl (4, n4, .inr (.inr (.inr (.inr f5)))))) (b7 : vp_in x_1 n4) (e9 : f5 x_1.toNatClampNeg = some q8) (e11 : h q8 = some (.inr (2, fs10))) (m12 : c ≤ MC) (m13 : s ≤ MS) (hc : call 13 [(.ref q8), (.int x_2)] h z 0 0 P) (K : ∀ (o : Option Value) (h2 : HP) (z2 : Nat), P o h2 z2 → ip sc call 85 MC MS Q 30 [o_0, some (.int x_1), some (.int x_2), some (.ref r_3)] (o.toList ++ []) h2 z2 c s) : ip sc call 85 MC MS Q 20 [o_0, some (.int x_1), some (.int x_2), some (.ref r_3)] [] h z c s := by
  refine jp_load (pc2 := 21) (n := 3) rfl rfl rfl rfl ?_
  refine jp_getf (pc2 := 24) rfl rfl e2 e3 ?_
  refine jp_load (pc2 := 25) (n := 1) rfl rfl rfl rfl ?_
  refine jp_aald (pc2 := 26) rfl rfl e6 (by decide) b7 e9 ?_
  refine jp_load (pc2 := 27) (n := 2) rfl rfl rfl rfl ?_
  exact jp_virt0 (pc2 := 30) (As := [(.int x_2)]) (rest := []) rfl rfl rfl (Nat.le_of_ble_eq_true rfl) e11 m12 m13 hc rfl K
theorem b85_30 {o_0 : Option Value} {o_1 : Option Value} {o_2 : Option Value} {o_3 : Option Value} {sx_0 : Int32}  (K : ip sc call 85 MC MS Q 34 [o_0, o_1, o_2, o_3] [(.int sx_0)] h z c s) : ip sc call 85 MC MS Q 30 [o_0, o_1, o_2, o_3] [(.int sx_0)] h z c s := by
  refine ip_goto rfl ?_
  exact K
theorem b85_33 {o_0 : Option Value} {o_1 : Option Value} {o_2 : Option Value} {o_3 : Option Value}  (K : ip sc call 85 MC MS Q 34 [o_0, o_1, o_2, o_3] [(.int ((-1)))] h z c s) : ip sc call 85 MC MS Q 33 [o_0, o_1, o_2, o_3] [] h z c s := by
  refine jp_con (pc2 := 34) (v := .int (-1)) rfl rfl rfl ?_
  exact K
theorem b85_34 {o_0 : Option Value} {o_1 : Option Value} {o_2 : Option Value} {o_3 : Option Value} {sx_0 : Int32} (q1 : Q (some (.int sx_0)) h z)  : ip sc call 85 MC MS Q 34 [o_0, o_1, o_2, o_3] [(.int sx_0)] h z c s := by
  exact ip_iret (st := []) rfl rfl rfl q1
theorem b86_0g {r_0 : Nat} {fs1 : List Value} {P : ipQ} {mc ms : Nat} (e2 : h r_0 = some (.inr (8, fs1))) (m3 : c + mc ≤ MC) (m4 : s + ms ≤ MS) (hc : call 88 [(.ref r_0)] h z mc ms P) (K : ∀ (o : Option Value) (h2 : HP) (z2 : Nat), P o h2 z2 → ip sc call 86 MC MS Q 4 [some (.ref r_0)] (o.toList ++ []) h2 z2 (c + mc) (s + ms)) : ip sc call 86 MC MS Q 0 [some (.ref r_0)] [] h z c s := by
  refine jp_load (pc2 := 1) (n := 0) rfl rfl rfl rfl ?_
  exact jp_virt (pc2 := 4) (As := []) (rest := []) rfl rfl rfl (Nat.le_of_ble_eq_true rfl) e2 m3 m4 hc rfl K
theorem b86_4 {r_0 : Nat} {sx_0 : Int32}  (K1 : sx_0 = 0 → ip sc call 86 MC MS Q 24 [some (.ref r_0)] [] h z c s) (K2 : ¬ (sx_0 = 0) → ip sc call 86 MC MS Q 7 [some (.ref r_0)] [] h z c s) : ip sc call 86 MC MS Q 4 [some (.ref r_0)] [(.int sx_0)] h z c s := by
  exact jp_if0 (pc2 := 7) rfl rfl K1 K2
theorem b86_7g {r_0 : Nat} {fs1 : List Value} {q_fs1_3 : Nat} {q_fs1_0 : Nat} {fs5 : List Value} {P : ipQ} {mc ms : Nat} (e2 : h r_0 = some (.inr (8, fs1))) (e3 : fs1[3]? = some (.ref q_fs1_3)) (e4 : fs1[0]? = some (.ref q_fs1_0)) (e6 : h q_fs1_0 = some (.inr (0, fs5))) (m7 : c + mc ≤ MC) (m8 : s + ms ≤ MS) (hc : call 1 [(.ref q_fs1_0)] h z mc ms P) (K : ∀ (o : Option Value) (h2 : HP) (z2 : Nat), P o h2 z2 → ip sc call 86 MC MS Q 18 [some (.ref r_0)] (o.toList ++ [(.ref q_fs1_3)]) h2 z2 (c + mc) (s + ms)) : ip sc call 86 MC MS Q 7 [some (.ref r_0)] [] h z c s := by
  refine jp_load (pc2 := 8) (n := 0) rfl rfl rfl rfl ?_
  refine jp_getf (pc2 := 11) rfl rfl e2 e3 ?_
  refine jp_load (pc2 := 12) (n := 0) rfl rfl rfl rfl ?_
  refine jp_getf (pc2 := 15) rfl rfl e2 e4 ?_
  exact jp_virt (pc2 := 18) (As := []) (rest := [(.ref q_fs1_3)]) rfl rfl rfl (Nat.le_of_ble_eq_true rfl) e6 m7 m8 hc rfl K
theorem b86_18g {o_0 : Option Value} {sr_0 : Nat} {sr_1 : Nat} {fs1 : List Value} {P : ipQ} {mc ms : Nat} (e2 : h sr_0 = some (.inr (7, fs1))) (m3 : c + mc ≤ MC) (m4 : s + ms ≤ MS) (hc : call 66 [(.ref sr_0), (.ref sr_1)] h z mc ms P) (K : ∀ (o : Option Value) (h2 : HP) (z2 : Nat), P o h2 z2 → ip sc call 86 MC MS Q 21 [o_0] (o.toList ++ []) h2 z2 (c + mc) (s + ms)) : ip sc call 86 MC MS Q 18 [o_0] [(.ref sr_1), (.ref sr_0)] h z c s := by
  exact jp_virt (pc2 := 21) (As := [(.ref sr_1)]) (rest := []) rfl rfl rfl (Nat.le_of_ble_eq_true rfl) e2 m3 m4 hc rfl K
theorem b86_21 {o_0 : Option Value} {sx_0 : Int32}  (K : ip sc call 86 MC MS Q 25 [o_0] [(.int sx_0)] h z c s) : ip sc call 86 MC MS Q 21 [o_0] [(.int sx_0)] h z c s := by
  refine ip_goto rfl ?_
  exact K
theorem b86_24 {o_0 : Option Value}  (K : ip sc call 86 MC MS Q 25 [o_0] [(.int ((-1)))] h z c s) : ip sc call 86 MC MS Q 24 [o_0] [] h z c s := by
  refine jp_con (pc2 := 25) (v := .int (-1)) rfl rfl rfl ?_
  exact K
theorem b86_25 {o_0 : Option Value} {sx_0 : Int32} (q1 : Q (some (.int sx_0)) h z)  : ip sc call 86 MC MS Q 25 [o_0] [(.int sx_0)] h z c s := by
  exact ip_iret (st := []) rfl rfl rfl q1
theorem b87_0g {r_0 : Nat} {fs1 : List Value} {P : ipQ} {mc ms : Nat} (e2 : h r_0 = some (.inr (8, fs1))) (m3 : c + mc ≤ MC) (m4 : s + ms ≤ MS) (hc : call 88 [(.ref r_0)] h z mc ms P) (K : ∀ (o : Option Value) (h2 : HP) (z2 : Nat), P o h2 z2 → ip sc call 87 MC MS Q 4 [some (.ref r_0)] (o.toList ++ []) h2 z2 (c + mc) (s + ms)) : ip sc call 87 MC MS Q 0 [some (.ref r_0)] [] h z c s := by
  refine jp_load (pc2 := 1) (n := 0) rfl rfl rfl rfl ?_
  exact jp_virt (pc2 := 4) (As := []) (rest := []) rfl rfl rfl (Nat.le_of_ble_eq_true rfl) e2 m3 m4 hc rfl K
theorem b87_4 {r_0 : Nat} {sx_0 : Int32}  (K1 : sx_0 = 0 → ip sc call 87 MC MS Q 28 [some (.ref r_0)] [] h z c s) (K2 : ¬ (sx_0 = 0) → ip sc call 87 MC MS Q 7 [some (.ref r_0)] [] h z c s) : ip sc call 87 MC MS Q 4 [some (.ref r_0)] [(.int sx_0)] h z c s := by
  exact jp_if0 (pc2 := 7) rfl rfl K1 K2
theorem b87_7g {r_0 : Nat} {fs1 : List Value} {q_fs1_3 : Nat} {q_fs1_0 : Nat} {fs5 : List Value} {P : ipQ} {mc ms : Nat} (e2 : h r_0 = some (.inr (8, fs1))) (e3 : fs1[3]? = some (.ref q_fs1_3)) (e4 : fs1[0]? = some (.ref q_fs1_0)) (e6 : h q_fs1_0 = some (.inr (0, fs5))) (m7 : c + mc ≤ MC) (m8 : s + ms ≤ MS) (hc : call 1 [(.ref q_fs1_0)] h z mc ms P) (K : ∀ (o : Option Value) (h2 : HP) (z2 : Nat), P o h2 z2 → ip sc call 87 MC MS Q 18 [some (.ref r_0)] (o.toList ++ [(.ref q_fs1_3)]) h2 z2 (c + mc) (s + ms)) : ip sc call 87 MC MS Q 7 [some (.ref r_0)] [] h z c s := by
  refine jp_load (pc2 := 8) (n := 0) rfl rfl rfl rfl ?_
  refine jp_getf (pc2 := 11) rfl rfl e2 e3 ?_
  refine jp_load (pc2 := 12) (n := 0) rfl rfl rfl rfl ?_
  refine jp_getf (pc2 := 15) rfl rfl e2 e4 ?_
  exact jp_virt (pc2 := 18) (As := []) (rest := [(.ref q_fs1_3)]) rfl rfl rfl (Nat.le_of_ble_eq_true rfl) e6 m7 m8 hc rfl K
theorem b87_18g {r_0 : Nat} {sr_0 : Nat} {sr_1 : Nat} {fs1 : List Value} {q_fs1_2 : Nat} {fs4 : List Value} {P : ipQ} {mc ms : Nat} (e2 : h r_0 = some (.inr (8, fs1))) (e3 : fs1[2]? = some (.ref q_fs1_2)) (e5 : h sr_0 = some (.inr (7, fs4))) (m6 : c + mc ≤ MC) (m7 : s + ms ≤ MS) (hc : call 67 [(.ref sr_0), (.ref sr_1), (.ref q_fs1_2)] h z mc ms P) (K : ∀ (o : Option Value) (h2 : HP) (z2 : Nat), P o h2 z2 → ip sc call 87 MC MS Q 25 [some (.ref r_0)] (o.toList ++ []) h2 z2 (c + mc) (s + ms)) : ip sc call 87 MC MS Q 18 [some (.ref r_0)] [(.ref sr_1), (.ref sr_0)] h z c s := by
  refine jp_load (pc2 := 19) (n := 0) rfl rfl rfl rfl ?_
  refine jp_getf (pc2 := 22) rfl rfl e2 e3 ?_
  exact jp_virt (pc2 := 25) (As := [(.ref sr_1), (.ref q_fs1_2)]) (rest := []) rfl rfl rfl (Nat.le_of_ble_eq_true rfl) e5 m6 m7 hc rfl K
theorem b87_25 {o_0 : Option Value} {sx_0 : Int32}  (K : ip sc call 87 MC MS Q 29 [o_0] [(.int sx_0)] h z c s) : ip sc call 87 MC MS Q 25 [o_0] [(.int sx_0)] h z c s := by
  refine ip_goto rfl ?_
  exact K
theorem b87_28 {o_0 : Option Value}  (K : ip sc call 87 MC MS Q 29 [o_0] [(.int ((-1)))] h z c s) : ip sc call 87 MC MS Q 28 [o_0] [] h z c s := by
  refine jp_con (pc2 := 29) (v := .int (-1)) rfl rfl rfl ?_
  exact K
theorem b87_29 {o_0 : Option Value} {sx_0 : Int32} (q1 : Q (some (.int sx_0)) h z)  : ip sc call 87 MC MS Q 29 [o_0] [(.int sx_0)] h z c s := by
  exact ip_iret (st := []) rfl rfl rfl q1
theorem b88_0g {r_0 : Nat} {fs1 : List Value} {q_fs1_0 : Nat} {fs4 : List Value} {P : ipQ} {mc ms : Nat} (e2 : h r_0 = some (.inr (8, fs1))) (e3 : fs1[0]? = some (.ref q_fs1_0)) (e5 : h q_fs1_0 = some (.inr (0, fs4))) (m6 : c + mc ≤ MC) (m7 : s + ms ≤ MS) (hc : call 1 [(.ref q_fs1_0)] h z mc ms P) (K : ∀ (o : Option Value) (h2 : HP) (z2 : Nat), P o h2 z2 → ip sc call 88 MC MS Q 7 [some (.ref r_0)] (o.toList ++ []) h2 z2 (c + mc) (s + ms)) : ip sc call 88 MC MS Q 0 [some (.ref r_0)] [] h z c s := by
  refine jp_load (pc2 := 1) (n := 0) rfl rfl rfl rfl ?_
  refine jp_getf (pc2 := 4) rfl rfl e2 e3 ?_
  exact jp_virt (pc2 := 7) (As := []) (rest := []) rfl rfl rfl (Nat.le_of_ble_eq_true rfl) e5 m6 m7 hc rfl K
theorem b88_7 {r_0 : Nat} {sr_0 : Nat} {fs1 : List Value} {v_fs1_10 : Int32} (e2 : h sr_0 = some (.inr (6, fs1))) (e3 : fs1[10]? = some (.int v_fs1_10)) (K1 : v_fs1_10 ≤ 9 → ip sc call 88 MC MS Q 17 [some (.ref r_0)] [] h z c s) (K2 : ¬ (v_fs1_10 ≤ 9) → ip sc call 88 MC MS Q 15 [some (.ref r_0)] [] h z c s) : ip sc call 88 MC MS Q 7 [some (.ref r_0)] [(.ref sr_0)] h z c s := by
  refine jp_getf (pc2 := 10) rfl rfl e2 e3 ?_
  refine jp_con (pc2 := 12) (v := .int 9) rfl rfl rfl ?_
  exact jp_icmp (pc2 := 15) rfl rfl K1 K2
theorem b88_15 {o_0 : Option Value} (q1 : Q (some (.int 0)) h z)  : ip sc call 88 MC MS Q 15 [o_0] [] h z c s := by
  refine jp_con (pc2 := 16) (v := .int 0) rfl rfl rfl ?_
  exact ip_iret (st := []) rfl rfl rfl q1
theorem b88_17 {r_0 : Nat} {fs1 : List Value} {q_fs1_3 : Nat} (e2 : h r_0 = some (.inr (8, fs1))) (e3 : fs1[3]? = some (.ref q_fs1_3)) (K : ip sc call 88 MC MS Q 35 [some (.ref r_0)] [] h z c s) : ip sc call 88 MC MS Q 17 [some (.ref r_0)] [] h z c s := by
  refine jp_load (pc2 := 18) (n := 0) rfl rfl rfl rfl ?_
  refine jp_getf (pc2 := 21) rfl rfl e2 e3 ?_
  exact ip_nonnull rfl K
theorem b88_17n {r_0 : Nat} {fs1 : List Value} (e2 : h r_0 = some (.inr (8, fs1))) (e3 : fs1[3]? = some .null) (K : ip sc call 88 MC MS Q 24 [some (.ref r_0)] [] h z c s) : ip sc call 88 MC MS Q 17 [some (.ref r_0)] [] h z c s := by
  refine jp_load (pc2 := 18) (n := 0) rfl rfl rfl rfl ?_
  refine jp_getf (pc2 := 21) rfl rfl e2 e3 ?_
  exact jp_isnull (pc2 := 24) rfl rfl K
theorem b88_24g {r_0 : Nat} {P : ipQ} {mc ms : Nat} (m1 : c + 1 ≤ MC) (m2 : s + 9 ≤ MS) (m3 : c + 1 + mc ≤ MC) (m4 : s + 9 + ms ≤ MS) (hc : call 65 [(.ref z)] (hup h z (.inr (7, (ipDef 7)))) (z + 1) mc ms P) (K : ∀ (o : Option Value) (h2 : HP) (z2 : Nat), P o h2 z2 → ip sc call 88 MC MS Q 32 [some (.ref r_0)] (o.toList ++ [(.ref z), (.ref r_0)]) h2 z2 (c + 1 + mc) (s + 9 + ms)) : ip sc call 88 MC MS Q 24 [some (.ref r_0)] [] h z c s := by
  refine jp_load (pc2 := 25) (n := 0) rfl rfl rfl rfl ?_
  refine jp_new (pc2 := 28) (N := 9) rfl rfl rfl m1 m2 ?_
  refine jp_dup (pc2 := 29) rfl rfl rfl ?_
  exact jp_spec (pc2 := 32) (As := []) (rest := [(.ref z), (.ref r_0)]) rfl rfl rfl (Nat.le_of_ble_eq_true rfl) m3 m4 (by decide) hc rfl K
theorem b88_32 {o_0 : Option Value} {sr_0 : Nat} {sr_1 : Nat} {fs1 : List Value} (e2 : h sr_0 = some (.inr (8, fs1))) (l3 : fs1.length = 4) (K : ip sc call 88 MC MS Q 35 [o_0] [] (hup h sr_0 (.inr (8, (fs1.set 3 (.ref sr_1))))) z c s) : ip sc call 88 MC MS Q 32 [o_0] [(.ref sr_1), (.ref sr_0)] h z c s := by
  refine jp_putf (pc2 := 35) rfl rfl e2 (ln_lt l3 (by decide)) ⟨rfl, rfl⟩ ?_
  exact K
theorem b88_35 {o_0 : Option Value} (q1 : Q (some (.int 1)) h z)  : ip sc call 88 MC MS Q 35 [o_0] [] h z c s := by
  refine jp_con (pc2 := 36) (v := .int 1) rfl rfl rfl ?_
  exact ip_iret (st := []) rfl rfl rfl q1
theorem b89_0 {r_0 : Nat} {x_1 : Int32}  (K1 : x_1 < 0 → ip sc call 89 MC MS Q 9 [some (.ref r_0), some (.int x_1)] [] h z c s) (K2 : ¬ (x_1 < 0) → ip sc call 89 MC MS Q 4 [some (.ref r_0), some (.int x_1)] [] h z c s) : ip sc call 89 MC MS Q 0 [some (.ref r_0), some (.int x_1)] [] h z c s := by
  refine jp_load (pc2 := 1) (n := 1) rfl rfl rfl rfl ?_
  exact jp_if0 (pc2 := 4) rfl rfl K1 K2
theorem b89_4 {r_0 : Nat} {x_1 : Int32}  (K1 : x_1 < 4 → ip sc call 89 MC MS Q 11 [some (.ref r_0), some (.int x_1)] [] h z c s) (K2 : ¬ (x_1 < 4) → ip sc call 89 MC MS Q 9 [some (.ref r_0), some (.int x_1)] [] h z c s) : ip sc call 89 MC MS Q 4 [some (.ref r_0), some (.int x_1)] [] h z c s := by
  refine jp_load (pc2 := 5) (n := 1) rfl rfl rfl rfl ?_
  refine jp_con (pc2 := 6) (v := .int 4) rfl rfl rfl ?_
  exact jp_icmp (pc2 := 9) rfl rfl K1 K2
theorem b89_9 {o_0 : Option Value} {o_1 : Option Value} (q1 : Q (some (.int 0)) h z)  : ip sc call 89 MC MS Q 9 [o_0, o_1] [] h z c s := by
  refine jp_con (pc2 := 10) (v := .int 0) rfl rfl rfl ?_
  exact ip_iret (st := []) rfl rfl rfl q1
theorem b89_11 {r_0 : Nat} {x_1 : Int32} {fs1 : List Value} {q_fs1_1 : Nat} {n4 : Nat} {f5 : Nat → Option Nat} {q8 : Nat} (e2 : h r_0 = some (.inr (8, fs1))) (e3 : fs1[1]? = some (.ref q_fs1_1)) (e6 : h q_fs1_1 = some (.inl (6, n4, .inr (.inr (.inr (.inr f5)))))) (b7 : vp_in x_1 n4) (e9 : f5 x_1.toNatClampNeg = some q8) (K : ip sc call 89 MC MS Q 33 [some (.ref r_0), some (.int x_1)] [] h z c s) : ip sc call 89 MC MS Q 11 [some (.ref r_0), some (.int x_1)] [] h z c s := by
  refine jp_load (pc2 := 12) (n := 0) rfl rfl rfl rfl ?_
  refine jp_getf (pc2 := 15) rfl rfl e2 e3 ?_
  refine jp_load (pc2 := 16) (n := 1) rfl rfl rfl rfl ?_
  refine jp_aald (pc2 := 17) rfl rfl e6 (by decide) b7 e9 ?_
  exact ip_nonnull rfl K
theorem b89_11n {r_0 : Nat} {x_1 : Int32} {fs1 : List Value} {q_fs1_1 : Nat} {n4 : Nat} {f5 : Nat → Option Nat} (e2 : h r_0 = some (.inr (8, fs1))) (e3 : fs1[1]? = some (.ref q_fs1_1)) (e6 : h q_fs1_1 = some (.inl (6, n4, .inr (.inr (.inr (.inr f5)))))) (b7 : vp_in x_1 n4) (e8 : f5 x_1.toNatClampNeg = none) (K : ip sc call 89 MC MS Q 20 [some (.ref r_0), some (.int x_1)] [] h z c s) : ip sc call 89 MC MS Q 11 [some (.ref r_0), some (.int x_1)] [] h z c s := by
  refine jp_load (pc2 := 12) (n := 0) rfl rfl rfl rfl ?_
  refine jp_getf (pc2 := 15) rfl rfl e2 e3 ?_
  refine jp_load (pc2 := 16) (n := 1) rfl rfl rfl rfl ?_
  refine jp_aaldn (pc2 := 17) rfl rfl e6 (by decide) b7 e8 ?_
  exact jp_isnull (pc2 := 20) rfl rfl K
theorem b89_20g {r_0 : Nat} {x_1 : Int32} {fs1 : List Value} {q_fs1_1 : Nat} {P : ipQ} {mc ms : Nat} (e2 : h r_0 = some (.inr (8, fs1))) (e3 : fs1[1]? = some (.ref q_fs1_1)) (m4 : c + 1 ≤ MC) (m5 : s + 3 ≤ MS) (m6 : c + 1 + mc ≤ MC) (m7 : s + 3 + ms ≤ MS) (hc : call 27 [(.ref z)] (hup h z (.inr (4, (ipDef 4)))) (z + 1) mc ms P) (K : ∀ (o : Option Value) (h2 : HP) (z2 : Nat), P o h2 z2 → ip sc call 89 MC MS Q 32 [some (.ref r_0), some (.int x_1)] (o.toList ++ [(.ref z), (.int x_1), (.ref q_fs1_1)]) h2 z2 (c + 1 + mc) (s + 3 + ms)) : ip sc call 89 MC MS Q 20 [some (.ref r_0), some (.int x_1)] [] h z c s := by
  refine jp_load (pc2 := 21) (n := 0) rfl rfl rfl rfl ?_
  refine jp_getf (pc2 := 24) rfl rfl e2 e3 ?_
  refine jp_load (pc2 := 25) (n := 1) rfl rfl rfl rfl ?_
  refine jp_new (pc2 := 28) (N := 3) rfl rfl rfl m4 m5 ?_
  refine jp_dup (pc2 := 29) rfl rfl rfl ?_
  exact jp_spec (pc2 := 32) (As := []) (rest := [(.ref z), (.int x_1), (.ref q_fs1_1)]) rfl rfl rfl (Nat.le_of_ble_eq_true rfl) m6 m7 (by decide) hc rfl K
theorem b89_32 {r_0 : Nat} {x_1 : Int32} {sr_0 : Nat} {sx_1 : Int32} {sr_2 : Nat} {n1 : Nat} {f2 : Nat → Option Nat} {fs5 : List Value} (e3 : h sr_0 = some (.inl (6, n1, .inr (.inr (.inr (.inr f2)))))) (b4 : vp_in sx_1 n1) (e6 : h sr_2 = some (.inr (4, fs5))) (K : ip sc call 89 MC MS Q 33 [some (.ref r_0), some (.int x_1)] [] (hup h sr_0 (.inl (6, n1, .inr (.inr (.inr (.inr (va_up f2 sx_1.toNatClampNeg (some sr_2)))))))) z c s) : ip sc call 89 MC MS Q 32 [some (.ref r_0), some (.int x_1)] [(.ref sr_2), (.int sx_1), (.ref sr_0)] h z c s := by
  refine jp_aast (pc2 := 33) rfl rfl e3 (by decide) e6 b4 ?_
  exact K
theorem b89_33g {r_0 : Nat} {x_1 : Int32} {fs1 : List Value} {q_fs1_1 : Nat} {n4 : Nat} {f5 : Nat → Option Nat} {q8 : Nat} {q_fs1_0 : Nat} {fs11 : List Value} {q_fs11_0 : Nat} {fs14 : List Value} {P : ipQ} {mc ms : Nat} (e2 : h r_0 = some (.inr (8, fs1))) (e3 : fs1[1]? = some (.ref q_fs1_1)) (e6 : h q_fs1_1 = some (.inl (6, n4, .inr (.inr (.inr (.inr f5)))))) (b7 : vp_in x_1 n4) (e9 : f5 x_1.toNatClampNeg = some q8) (e10 : fs1[0]? = some (.ref q_fs1_0)) (e12 : h q_fs1_0 = some (.inr (0, fs11))) (e13 : fs11[0]? = some (.ref q_fs11_0)) (e15 : h q8 = some (.inr (4, fs14))) (m16 : c + mc ≤ MC) (m17 : s + ms ≤ MS) (hc : call 28 [(.ref q8), (.ref q_fs11_0)] h z mc ms P) (K : ∀ (o : Option Value) (h2 : HP) (z2 : Nat), P o h2 z2 → ip sc call 89 MC MS Q 49 [some (.ref r_0), some (.int x_1)] (o.toList ++ []) h2 z2 (c + mc) (s + ms)) : ip sc call 89 MC MS Q 33 [some (.ref r_0), some (.int x_1)] [] h z c s := by
  refine jp_load (pc2 := 34) (n := 0) rfl rfl rfl rfl ?_
  refine jp_getf (pc2 := 37) rfl rfl e2 e3 ?_
  refine jp_load (pc2 := 38) (n := 1) rfl rfl rfl rfl ?_
  refine jp_aald (pc2 := 39) rfl rfl e6 (by decide) b7 e9 ?_
  refine jp_load (pc2 := 40) (n := 0) rfl rfl rfl rfl ?_
  refine jp_getf (pc2 := 43) rfl rfl e2 e10 ?_
  refine jp_getf (pc2 := 46) rfl rfl e12 e13 ?_
  exact jp_virt (pc2 := 49) (As := [(.ref q_fs11_0)]) (rest := []) rfl rfl rfl (Nat.le_of_ble_eq_true rfl) e15 m16 m17 hc rfl K
theorem b89_49 {o_0 : Option Value} {o_1 : Option Value} (q1 : Q (some (.int 1)) h z)  : ip sc call 89 MC MS Q 49 [o_0, o_1] [] h z c s := by
  refine jp_con (pc2 := 50) (v := .int 1) rfl rfl rfl ?_
  exact ip_iret (st := []) rfl rfl rfl q1
theorem b90_0 {r_0 : Nat} {x_1 : Int32}  (K1 : x_1 < 0 → ip sc call 90 MC MS Q 18 [some (.ref r_0), some (.int x_1)] [] h z c s) (K2 : ¬ (x_1 < 0) → ip sc call 90 MC MS Q 4 [some (.ref r_0), some (.int x_1)] [] h z c s) : ip sc call 90 MC MS Q 0 [some (.ref r_0), some (.int x_1)] [] h z c s := by
  refine jp_load (pc2 := 1) (n := 1) rfl rfl rfl rfl ?_
  exact jp_if0 (pc2 := 4) rfl rfl K1 K2
theorem b90_4 {r_0 : Nat} {x_1 : Int32}  (K1 : (4 : Int32) ≤ x_1 → ip sc call 90 MC MS Q 18 [some (.ref r_0), some (.int x_1)] [] h z c s) (K2 : ¬ ((4 : Int32) ≤ x_1) → ip sc call 90 MC MS Q 9 [some (.ref r_0), some (.int x_1)] [] h z c s) : ip sc call 90 MC MS Q 4 [some (.ref r_0), some (.int x_1)] [] h z c s := by
  refine jp_load (pc2 := 5) (n := 1) rfl rfl rfl rfl ?_
  refine jp_con (pc2 := 6) (v := .int 4) rfl rfl rfl ?_
  exact jp_icmp (pc2 := 9) rfl rfl K1 K2
theorem b90_9 {r_0 : Nat} {x_1 : Int32} {fs1 : List Value} {q_fs1_1 : Nat} {n4 : Nat} {f5 : Nat → Option Nat} {q8 : Nat} (e2 : h r_0 = some (.inr (8, fs1))) (e3 : fs1[1]? = some (.ref q_fs1_1)) (e6 : h q_fs1_1 = some (.inl (6, n4, .inr (.inr (.inr (.inr f5)))))) (b7 : vp_in x_1 n4) (e9 : f5 x_1.toNatClampNeg = some q8) (K : ip sc call 90 MC MS Q 20 [some (.ref r_0), some (.int x_1)] [] h z c s) : ip sc call 90 MC MS Q 9 [some (.ref r_0), some (.int x_1)] [] h z c s := by
  refine jp_load (pc2 := 10) (n := 0) rfl rfl rfl rfl ?_
  refine jp_getf (pc2 := 13) rfl rfl e2 e3 ?_
  refine jp_load (pc2 := 14) (n := 1) rfl rfl rfl rfl ?_
  refine jp_aald (pc2 := 15) rfl rfl e6 (by decide) b7 e9 ?_
  exact ip_nonnull rfl K
theorem b90_9n {r_0 : Nat} {x_1 : Int32} {fs1 : List Value} {q_fs1_1 : Nat} {n4 : Nat} {f5 : Nat → Option Nat} (e2 : h r_0 = some (.inr (8, fs1))) (e3 : fs1[1]? = some (.ref q_fs1_1)) (e6 : h q_fs1_1 = some (.inl (6, n4, .inr (.inr (.inr (.inr f5)))))) (b7 : vp_in x_1 n4) (e8 : f5 x_1.toNatClampNeg = none) (K : ip sc call 90 MC MS Q 18 [some (.ref r_0), some (.int x_1)] [] h z c s) : ip sc call 90 MC MS Q 9 [some (.ref r_0), some (.int x_1)] [] h z c s := by
  refine jp_load (pc2 := 10) (n := 0) rfl rfl rfl rfl ?_
  refine jp_getf (pc2 := 13) rfl rfl e2 e3 ?_
  refine jp_load (pc2 := 14) (n := 1) rfl rfl rfl rfl ?_
  refine jp_aaldn (pc2 := 15) rfl rfl e6 (by decide) b7 e8 ?_
  exact jp_isnull (pc2 := 18) rfl rfl K
theorem b90_18 {o_0 : Option Value} {o_1 : Option Value} (q1 : Q (some (.int 0)) h z)  : ip sc call 90 MC MS Q 18 [o_0, o_1] [] h z c s := by
  refine jp_con (pc2 := 19) (v := .int 0) rfl rfl rfl ?_
  exact ip_iret (st := []) rfl rfl rfl q1
theorem b90_20 {r_0 : Nat} {x_1 : Int32} {fs1 : List Value} {q_fs1_0 : Nat} {q_fs1_1 : Nat} {n5 : Nat} {f6 : Nat → Option Nat} {q9 : Nat} {fs11 : List Value} {P : ipQ} (e2 : h r_0 = some (.inr (8, fs1))) (e3 : fs1[0]? = some (.ref q_fs1_0)) (e4 : fs1[1]? = some (.ref q_fs1_1)) (e7 : h q_fs1_1 = some (.inl (6, n5, .inr (.inr (.inr (.inr f6)))))) (b8 : vp_in x_1 n5) (e10 : f6 x_1.toNatClampNeg = some q9) (e12 : h q_fs1_0 = some (.inr (0, fs11))) (m13 : c ≤ MC) (m14 : s ≤ MS) (hc : call 5 [(.ref q_fs1_0), (.ref q9)] h z 0 0 P) (K : ∀ (o : Option Value) (h2 : HP) (z2 : Nat), P o h2 z2 → ip sc call 90 MC MS Q 33 [some (.ref r_0), some (.int x_1)] (o.toList ++ []) h2 z2 c s) : ip sc call 90 MC MS Q 20 [some (.ref r_0), some (.int x_1)] [] h z c s := by
  refine jp_load (pc2 := 21) (n := 0) rfl rfl rfl rfl ?_
  refine jp_getf (pc2 := 24) rfl rfl e2 e3 ?_
  refine jp_load (pc2 := 25) (n := 0) rfl rfl rfl rfl ?_
  refine jp_getf (pc2 := 28) rfl rfl e2 e4 ?_
  refine jp_load (pc2 := 29) (n := 1) rfl rfl rfl rfl ?_
  refine jp_aald (pc2 := 30) rfl rfl e7 (by decide) b8 e10 ?_
  exact jp_virt0 (pc2 := 33) (As := [(.ref q9)]) (rest := []) rfl rfl rfl (Nat.le_of_ble_eq_true rfl) e12 m13 m14 hc rfl K
theorem b90_33 {o_0 : Option Value} {o_1 : Option Value} (q1 : Q (some (.int 1)) h z)  : ip sc call 90 MC MS Q 33 [o_0, o_1] [] h z c s := by
  refine jp_con (pc2 := 34) (v := .int 1) rfl rfl rfl ?_
  exact ip_iret (st := []) rfl rfl rfl q1
theorem b151_0 {x_0 : Int32} {o_1 : Option Value}  (K1 : (0 : Int32) < ((x_0 ^^^ ((-1))) &&& (x_0 - 1)) → ip sc call 151 MC MS Q 17 [some (.int ((x_0 ^^^ ((-1))) &&& (x_0 - 1))), o_1] [] h z c s) (K2 : ¬ ((0 : Int32) < ((x_0 ^^^ ((-1))) &&& (x_0 - 1))) → ip sc call 151 MC MS Q 12 [some (.int ((x_0 ^^^ ((-1))) &&& (x_0 - 1))), o_1] [] h z c s) : ip sc call 151 MC MS Q 0 [some (.int x_0), o_1] [] h z c s := by
  refine jp_load (pc2 := 1) (n := 0) rfl rfl rfl rfl ?_
  refine jp_con (pc2 := 2) (v := .int (-1)) rfl rfl rfl ?_
  refine jp_bin (pc2 := 3) (v := x_0 ^^^ ((-1))) rfl rfl rfl ?_
  refine jp_load (pc2 := 4) (n := 0) rfl rfl rfl rfl ?_
  refine jp_con (pc2 := 5) (v := .int 1) rfl rfl rfl ?_
  refine jp_bin (pc2 := 6) (v := x_0 - 1) rfl rfl rfl ?_
  refine jp_bin (pc2 := 7) (v := (x_0 ^^^ ((-1))) &&& (x_0 - 1)) rfl rfl rfl ?_
  refine jp_store (pc2 := 8) (n := 0) rfl rfl ⟨rfl, rfl⟩ rfl (Nat.le_of_ble_eq_true rfl) ?_
  refine jp_load (pc2 := 9) (n := 0) rfl rfl rfl rfl ?_
  exact jp_if0 (pc2 := 12) rfl rfl K1 K2
theorem b151_12 {x_0 : Int32} {o_1 : Option Value} (q1 : Q (some (.int (x_0 &&& 32))) h z)  : ip sc call 151 MC MS Q 12 [some (.int x_0), o_1] [] h z c s := by
  refine jp_load (pc2 := 13) (n := 0) rfl rfl rfl rfl ?_
  refine jp_con (pc2 := 15) (v := .int 32) rfl rfl rfl ?_
  refine jp_bin (pc2 := 16) (v := x_0 &&& 32) rfl rfl rfl ?_
  exact ip_iret (st := []) rfl rfl rfl q1
theorem b151_17 {x_0 : Int32} {o_1 : Option Value}  (K1 : x_0 ≤ 65536 → ip sc call 151 MC MS Q 34 [some (.int x_0), some (.int 1)] [] h z c s) (K2 : ¬ (x_0 ≤ 65536) → ip sc call 151 MC MS Q 26 [some (.int x_0), some (.int 1)] [] h z c s) : ip sc call 151 MC MS Q 17 [some (.int x_0), o_1] [] h z c s := by
  refine jp_con (pc2 := 18) (v := .int 1) rfl rfl rfl ?_
  refine jp_store (pc2 := 19) (n := 1) rfl rfl ⟨rfl, rfl⟩ rfl (Nat.le_of_ble_eq_true rfl) ?_
  refine jp_load (pc2 := 20) (n := 0) rfl rfl rfl rfl ?_
  refine jp_con (pc2 := 23) (v := .int 65536) rfl rfl rfl ?_
  exact jp_icmp (pc2 := 26) rfl rfl K1 K2
theorem b151_26 {x_0 : Int32} {x_1 : Int32}  (K : ip sc call 151 MC MS Q 34 [some (.int ((x_0.toUInt32 >>> ((16 : Int32).toUInt32 &&& Int32.toUInt32 31)).toInt32)), some (.int (x_1 + 16))] [] h z c s) : ip sc call 151 MC MS Q 26 [some (.int x_0), some (.int x_1)] [] h z c s := by
  refine jp_iinc (pc2 := 29) (n := 1) (v := x_1 + 16) rfl rfl rfl rfl rfl ?_
  refine jp_load (pc2 := 30) (n := 0) rfl rfl rfl rfl ?_
  refine jp_con (pc2 := 32) (v := .int 16) rfl rfl rfl ?_
  refine jp_bin (pc2 := 33) (v := (x_0.toUInt32 >>> ((16 : Int32).toUInt32 &&& Int32.toUInt32 31)).toInt32) rfl rfl rfl ?_
  refine jp_store (pc2 := 34) (n := 0) rfl rfl ⟨rfl, rfl⟩ rfl (Nat.le_of_ble_eq_true rfl) ?_
  exact K
theorem b151_34 {x_0 : Int32} {x_1 : Int32}  (K1 : x_0 ≤ 256 → ip sc call 151 MC MS Q 49 [some (.int x_0), some (.int x_1)] [] h z c s) (K2 : ¬ (x_0 ≤ 256) → ip sc call 151 MC MS Q 41 [some (.int x_0), some (.int x_1)] [] h z c s) : ip sc call 151 MC MS Q 34 [some (.int x_0), some (.int x_1)] [] h z c s := by
  refine jp_load (pc2 := 35) (n := 0) rfl rfl rfl rfl ?_
  refine jp_con (pc2 := 38) (v := .int 256) rfl rfl rfl ?_
  exact jp_icmp (pc2 := 41) rfl rfl K1 K2
theorem b151_41 {x_0 : Int32} {x_1 : Int32}  (K : ip sc call 151 MC MS Q 49 [some (.int ((x_0.toUInt32 >>> ((8 : Int32).toUInt32 &&& Int32.toUInt32 31)).toInt32)), some (.int (x_1 + 8))] [] h z c s) : ip sc call 151 MC MS Q 41 [some (.int x_0), some (.int x_1)] [] h z c s := by
  refine jp_iinc (pc2 := 44) (n := 1) (v := x_1 + 8) rfl rfl rfl rfl rfl ?_
  refine jp_load (pc2 := 45) (n := 0) rfl rfl rfl rfl ?_
  refine jp_con (pc2 := 47) (v := .int 8) rfl rfl rfl ?_
  refine jp_bin (pc2 := 48) (v := (x_0.toUInt32 >>> ((8 : Int32).toUInt32 &&& Int32.toUInt32 31)).toInt32) rfl rfl rfl ?_
  refine jp_store (pc2 := 49) (n := 0) rfl rfl ⟨rfl, rfl⟩ rfl (Nat.le_of_ble_eq_true rfl) ?_
  exact K
theorem b151_49 {x_0 : Int32} {x_1 : Int32}  (K1 : x_0 ≤ 16 → ip sc call 151 MC MS Q 62 [some (.int x_0), some (.int x_1)] [] h z c s) (K2 : ¬ (x_0 ≤ 16) → ip sc call 151 MC MS Q 55 [some (.int x_0), some (.int x_1)] [] h z c s) : ip sc call 151 MC MS Q 49 [some (.int x_0), some (.int x_1)] [] h z c s := by
  refine jp_load (pc2 := 50) (n := 0) rfl rfl rfl rfl ?_
  refine jp_con (pc2 := 52) (v := .int 16) rfl rfl rfl ?_
  exact jp_icmp (pc2 := 55) rfl rfl K1 K2
theorem b151_55 {x_0 : Int32} {x_1 : Int32}  (K : ip sc call 151 MC MS Q 62 [some (.int ((x_0.toUInt32 >>> ((4 : Int32).toUInt32 &&& Int32.toUInt32 31)).toInt32)), some (.int (x_1 + 4))] [] h z c s) : ip sc call 151 MC MS Q 55 [some (.int x_0), some (.int x_1)] [] h z c s := by
  refine jp_iinc (pc2 := 58) (n := 1) (v := x_1 + 4) rfl rfl rfl rfl rfl ?_
  refine jp_load (pc2 := 59) (n := 0) rfl rfl rfl rfl ?_
  refine jp_con (pc2 := 60) (v := .int 4) rfl rfl rfl ?_
  refine jp_bin (pc2 := 61) (v := (x_0.toUInt32 >>> ((4 : Int32).toUInt32 &&& Int32.toUInt32 31)).toInt32) rfl rfl rfl ?_
  refine jp_store (pc2 := 62) (n := 0) rfl rfl ⟨rfl, rfl⟩ rfl (Nat.le_of_ble_eq_true rfl) ?_
  exact K
theorem b151_62 {x_0 : Int32} {x_1 : Int32}  (K1 : x_0 ≤ 4 → ip sc call 151 MC MS Q 74 [some (.int x_0), some (.int x_1)] [] h z c s) (K2 : ¬ (x_0 ≤ 4) → ip sc call 151 MC MS Q 67 [some (.int x_0), some (.int x_1)] [] h z c s) : ip sc call 151 MC MS Q 62 [some (.int x_0), some (.int x_1)] [] h z c s := by
  refine jp_load (pc2 := 63) (n := 0) rfl rfl rfl rfl ?_
  refine jp_con (pc2 := 64) (v := .int 4) rfl rfl rfl ?_
  exact jp_icmp (pc2 := 67) rfl rfl K1 K2
theorem b151_67 {x_0 : Int32} {x_1 : Int32}  (K : ip sc call 151 MC MS Q 74 [some (.int ((x_0.toUInt32 >>> ((2 : Int32).toUInt32 &&& Int32.toUInt32 31)).toInt32)), some (.int (x_1 + 2))] [] h z c s) : ip sc call 151 MC MS Q 67 [some (.int x_0), some (.int x_1)] [] h z c s := by
  refine jp_iinc (pc2 := 70) (n := 1) (v := x_1 + 2) rfl rfl rfl rfl rfl ?_
  refine jp_load (pc2 := 71) (n := 0) rfl rfl rfl rfl ?_
  refine jp_con (pc2 := 72) (v := .int 2) rfl rfl rfl ?_
  refine jp_bin (pc2 := 73) (v := (x_0.toUInt32 >>> ((2 : Int32).toUInt32 &&& Int32.toUInt32 31)).toInt32) rfl rfl rfl ?_
  refine jp_store (pc2 := 74) (n := 0) rfl rfl ⟨rfl, rfl⟩ rfl (Nat.le_of_ble_eq_true rfl) ?_
  exact K
theorem b151_74 {x_0 : Int32} {x_1 : Int32} (q1 : Q (some (.int (x_1 + ((x_0.toUInt32 >>> ((1 : Int32).toUInt32 &&& Int32.toUInt32 31)).toInt32)))) h z)  : ip sc call 151 MC MS Q 74 [some (.int x_0), some (.int x_1)] [] h z c s := by
  refine jp_load (pc2 := 75) (n := 1) rfl rfl rfl rfl ?_
  refine jp_load (pc2 := 76) (n := 0) rfl rfl rfl rfl ?_
  refine jp_con (pc2 := 77) (v := .int 1) rfl rfl rfl ?_
  refine jp_bin (pc2 := 78) (v := (x_0.toUInt32 >>> ((1 : Int32).toUInt32 &&& Int32.toUInt32 31)).toInt32) rfl rfl rfl ?_
  refine jp_bin (pc2 := 79) (v := x_1 + ((x_0.toUInt32 >>> ((1 : Int32).toUInt32 &&& Int32.toUInt32 31)).toInt32)) rfl rfl rfl ?_
  exact ip_iret (st := []) rfl rfl rfl q1
end BLK
