/-! straight stretches of bytecode, printed by wip/whole/gen_blk.py -/
section BLK
variable {sc : ipSc} {call : ipCall} {MC MS : Nat} {Q : ipQ} {h : HP} {z c s : Nat}
-- c0_12 by hand: a making: raw
theorem c0_26 {r_0 : Nat} {a_1 : Nat} (c1 : a_1 < 2147483648) (K1 : 23 < a_1 → ip sc call 0 MC MS Q 52 [some (.ref r_0), some (.int (nI a_1))] [] h z c s) (K2 : ¬ (23 < a_1) → ip sc call 0 MC MS Q 32 [some (.ref r_0), some (.int (nI a_1))] [] h z c s) : ip sc call 0 MC MS Q 26 [some (.ref r_0), some (.int (nI a_1))] [] h z c s := by
  refine jp_load (pc2 := 27) (n := 1) rfl rfl rfl rfl ?_
  refine jp_con (pc2 := 29) (v := (.int (nI 23))) rfl rfl rfl ?_
  exact jp_icmp (pc2 := 32) rfl rfl (fun q => K1 ((nI_ltI (by decide) c1).mp q)) (fun q => K2 (fun r => q ((nI_ltI (by decide) c1).mpr r)))
theorem c0_45 {r_0 : Nat} {a_1 : Nat} {sr_0 : Nat} {sa_1 : Nat} {sr_2 : Nat} {n1 : Nat} {f2 : Nat → Option Nat} {fs6 : List Value} {g8 : Nat → Option Nat} (e3 : h sr_0 = some (.inl (5, n1, .inr (.inr (.inr (.inr f2)))))) (b4 : sa_1 < n1) (c5 : n1 < 2147483648) (e7 : h sr_2 = some (.inr (6, fs6))) (d9 : va_up f2 sa_1 (some sr_2) = g8) (K : ip sc call 0 MC MS Q 26 [some (.ref r_0), some (.int (nI (a_1 + 1)))] [] (hup h sr_0 (.inl (5, n1, .inr (.inr (.inr (.inr g8)))))) z c s) : ip sc call 0 MC MS Q 45 [some (.ref r_0), some (.int (nI a_1))] [(.ref sr_2), (.int (nI sa_1)), (.ref sr_0)] h z c s := by
  refine jp_aast (pc2 := 46) rfl rfl e3 (by decide) e7 (vp_in_nI b4 c5) ?_
  rw [(nI_clamp (Nat.lt_trans b4 c5))]
  rw [d9]
  refine jp_iinc (pc2 := 49) (n := 1) (v := nI (a_1 + 1)) rfl rfl rfl (nI_add _ 1) rfl ?_
  refine ip_goto rfl ?_
  exact K
theorem c0_52 {o_0 : Option Value} {o_1 : Option Value} (q1 : Q none h z)  : ip sc call 0 MC MS Q 52 [o_0, o_1] [] h z c s := by
  exact ip_vret (st := []) rfl rfl q1
theorem c1_0 {r_0 : Nat} {fs1 : List Value} {q_fs1_1 : Nat} {q_fs1_0 : Nat} {fs5 : List Value} {v_fs5_2 : Nat} {n8 : Nat} {f9 : Nat → Option Nat} {q13 : Nat} (e2 : h r_0 = some (.inr (0, fs1))) (e3 : fs1[1]? = some (.ref q_fs1_1)) (e4 : fs1[0]? = some (.ref q_fs1_0)) (e6 : h q_fs1_0 = some (.inr (4, fs5))) (e7 : fs5[2]? = some (.int (nI v_fs5_2))) (e10 : h q_fs1_1 = some (.inl (5, n8, .inr (.inr (.inr (.inr f9)))))) (b11 : v_fs5_2 < n8) (c12 : n8 < 2147483648) (e14 : f9 v_fs5_2 = some q13) (q15 : Q (some (.ref q13)) h z)  : ip sc call 1 MC MS Q 0 [some (.ref r_0)] [] h z c s := by
  refine jp_load (pc2 := 1) (n := 0) rfl rfl rfl rfl ?_
  refine jp_getf (pc2 := 4) rfl rfl e2 e3 ?_
  refine jp_load (pc2 := 5) (n := 0) rfl rfl rfl rfl ?_
  refine jp_getf (pc2 := 8) rfl rfl e2 e4 ?_
  refine jp_getf (pc2 := 11) rfl rfl e6 e7 ?_
  refine jp_aald (pc2 := 12) rfl rfl e10 (by decide) (vp_in_nI b11 c12) ((congrArg f9 (nI_clamp (Nat.lt_trans b11 c12))).trans e14) ?_
  exact ip_aret (st := []) rfl rfl q15
theorem c2_0 {r_0 : Nat} {a_1 : Nat} {fs1 : List Value} {q_fs1_0 : Nat} {fs4 : List Value} {q_fs1_1 : Nat} {n9 : Nat} {f10 : Nat → Option Nat} {q15 : Nat} {fs17 : List Value} {P : ipQ} (e2 : h r_0 = some (.inr (0, fs1))) (e3 : fs1[0]? = some (.ref q_fs1_0)) (e5 : h q_fs1_0 = some (.inr (4, fs4))) (l6 : fs4.length = 3) (n7 : r_0 ≠ q_fs1_0) (e8 : fs1[1]? = some (.ref q_fs1_1)) (e11 : h q_fs1_1 = some (.inl (5, n9, .inr (.inr (.inr (.inr f10)))))) (n12 : q_fs1_1 ≠ q_fs1_0) (b13 : 0 < n9) (c14 : n9 < 2147483648) (e16 : f10 0 = some q15) (e18 : h q15 = some (.inr (6, fs17))) (n19 : q15 ≠ q_fs1_0) (m20 : c ≤ MC) (m21 : s ≤ MS) (hc : call 51 [(.ref q15), (.int (nI a_1))] (hup h q_fs1_0 (.inr (4, ((fs4.set 1 (.int (nI a_1))).set 2 (.int (nI 0)))))) z 0 0 P) (K : ∀ (o : Option Value) (h2 : HP) (z2 : Nat), P o h2 z2 → ip sc call 2 MC MS Q 26 [some (.ref r_0), some (.int (nI a_1))] (o.toList ++ []) h2 z2 c s) : ip sc call 2 MC MS Q 0 [some (.ref r_0), some (.int (nI a_1))] [] h z c s := by
  refine jp_load (pc2 := 1) (n := 0) rfl rfl rfl rfl ?_
  refine jp_getf (pc2 := 4) rfl rfl e2 e3 ?_
  refine jp_load (pc2 := 5) (n := 1) rfl rfl rfl rfl ?_
  refine jp_putf (pc2 := 8) rfl rfl e5 (ln_lt l6 (by decide)) ⟨rfl, rfl⟩ ?_
  refine jp_load (pc2 := 9) (n := 0) rfl rfl rfl rfl ?_
  refine jp_getf (pc2 := 12) rfl rfl (hup_ne n7 e2) e3 ?_
  refine jp_con (pc2 := 13) (v := (.int (nI 0))) rfl rfl rfl ?_
  refine jp_putf (pc2 := 16) rfl rfl hup_eq (ls_lt (ln_lt l6 (by decide))) ⟨rfl, rfl⟩ ?_
  rw [hup_hup]
  refine jp_load (pc2 := 17) (n := 0) rfl rfl rfl rfl ?_
  refine jp_getf (pc2 := 20) rfl rfl (hup_ne n7 e2) e8 ?_
  refine jp_con (pc2 := 21) (v := (.int (nI 0))) rfl rfl rfl ?_
  refine jp_aald (pc2 := 22) rfl rfl (hup_ne n12 e11) (by decide) (vp_in_nI b13 c14) ((congrArg f10 (nI_clamp (Nat.lt_trans b13 c14))).trans e16) ?_
  refine jp_load (pc2 := 23) (n := 1) rfl rfl rfl rfl ?_
  exact jp_virt0 (pc2 := 26) (As := [(.int (nI a_1))]) (rest := []) rfl rfl rfl (Nat.le_of_ble_eq_true rfl) (hup_ne n19 e18) m20 m21 hc rfl K
theorem c2_26 {o_0 : Option Value} {o_1 : Option Value} (q1 : Q none h z)  : ip sc call 2 MC MS Q 26 [o_0, o_1] [] h z c s := by
  exact ip_vret (st := []) rfl rfl q1
theorem c3_0 {r_0 : Nat} {r_1 : Nat} {o_2 : Option Value} {fs1 : List Value} {q_fs1_0 : Nat} {fs4 : List Value} {v_fs4_2 : Nat} (e2 : h r_0 = some (.inr (0, fs1))) (e3 : fs1[0]? = some (.ref q_fs1_0)) (e5 : h q_fs1_0 = some (.inr (4, fs4))) (e6 : fs4[2]? = some (.int (nI v_fs4_2))) (c7 : v_fs4_2 < 2147483648) (K1 : v_fs4_2 < 23 → ip sc call 3 MC MS Q 16 [some (.ref r_0), some (.ref r_1), some (.int (nI v_fs4_2))] [] h z c s) (K2 : ¬ (v_fs4_2 < 23) → ip sc call 3 MC MS Q 14 [some (.ref r_0), some (.ref r_1), some (.int (nI v_fs4_2))] [] h z c s) : ip sc call 3 MC MS Q 0 [some (.ref r_0), some (.ref r_1), o_2] [] h z c s := by
  refine jp_load (pc2 := 1) (n := 0) rfl rfl rfl rfl ?_
  refine jp_getf (pc2 := 4) rfl rfl e2 e3 ?_
  refine jp_getf (pc2 := 7) rfl rfl e5 e6 ?_
  refine jp_store (pc2 := 8) (n := 2) rfl rfl ⟨rfl, rfl⟩ rfl (Nat.le_of_ble_eq_true rfl) ?_
  refine jp_load (pc2 := 9) (n := 2) rfl rfl rfl rfl ?_
  refine jp_con (pc2 := 11) (v := (.int (nI 23))) rfl rfl rfl ?_
  exact jp_icmp (pc2 := 14) rfl rfl (fun q => K1 ((nI_ltI c7 (by decide)).mp q)) (fun q => K2 (fun r => q ((nI_ltI c7 (by decide)).mpr r)))
theorem c3_14 {o_0 : Option Value} {o_1 : Option Value} {o_2 : Option Value} (q1 : Q (some (.int ((-1)))) h z)  : ip sc call 3 MC MS Q 14 [o_0, o_1, o_2] [] h z c s := by
  refine jp_con (pc2 := 15) (v := (.int ((-1)))) rfl rfl rfl ?_
  exact ip_iret (st := []) rfl rfl rfl q1
theorem c3_16 {r_0 : Nat} {r_1 : Nat} {a_2 : Nat} {fs1 : List Value} {q_fs1_1 : Nat} {n4 : Nat} {f5 : Nat → Option Nat} {q9 : Nat} {q12 : Nat} {fs14 : List Value} {P : ipQ} (e2 : h r_0 = some (.inr (0, fs1))) (e3 : fs1[1]? = some (.ref q_fs1_1)) (e6 : h q_fs1_1 = some (.inl (5, n4, .inr (.inr (.inr (.inr f5)))))) (b7 : a_2 + 1 < n4) (c8 : n4 < 2147483648) (e10 : f5 (a_2 + 1) = some q9) (b11 : a_2 < n4) (e13 : f5 a_2 = some q12) (e15 : h q9 = some (.inr (6, fs14))) (m16 : c ≤ MC) (m17 : s ≤ MS) (hc : call 54 [(.ref q9), (.ref q12), (.ref r_1)] h z 0 0 P) (K : ∀ (o : Option Value) (h2 : HP) (z2 : Nat), P o h2 z2 → ip sc call 3 MC MS Q 34 [some (.ref r_0), some (.ref r_1), some (.int (nI a_2))] (o.toList ++ []) h2 z2 c s) : ip sc call 3 MC MS Q 16 [some (.ref r_0), some (.ref r_1), some (.int (nI a_2))] [] h z c s := by
  refine jp_load (pc2 := 17) (n := 0) rfl rfl rfl rfl ?_
  refine jp_getf (pc2 := 20) rfl rfl e2 e3 ?_
  refine jp_load (pc2 := 21) (n := 2) rfl rfl rfl rfl ?_
  refine jp_con (pc2 := 22) (v := (.int (nI 1))) rfl rfl rfl ?_
  refine jp_bin (pc2 := 23) (v := nI (a_2 + 1)) rfl rfl (congrArg some (nI_add _ _)) ?_
  refine jp_aald (pc2 := 24) rfl rfl e6 (by decide) (vp_in_nI b7 c8) ((congrArg f5 (nI_clamp (Nat.lt_trans b7 c8))).trans e10) ?_
  refine jp_load (pc2 := 25) (n := 0) rfl rfl rfl rfl ?_
  refine jp_getf (pc2 := 28) rfl rfl e2 e3 ?_
  refine jp_load (pc2 := 29) (n := 2) rfl rfl rfl rfl ?_
  refine jp_aald (pc2 := 30) rfl rfl e6 (by decide) (vp_in_nI b11 c8) ((congrArg f5 (nI_clamp (Nat.lt_trans b11 c8))).trans e13) ?_
  refine jp_load (pc2 := 31) (n := 1) rfl rfl rfl rfl ?_
  exact jp_virt0 (pc2 := 34) (As := [(.ref q12), (.ref r_1)]) (rest := []) rfl rfl rfl (Nat.le_of_ble_eq_true rfl) e15 m16 m17 hc rfl K
theorem c3_34 {r_0 : Nat} {r_1 : Nat} {a_2 : Nat} {fs1 : List Value} {q_fs1_0 : Nat} {fs4 : List Value} {q_fs4_0 : Nat} {n7 : Nat} {f8 : Nat → Option Nat} {q12 : Nat} {fs14 : List Value} {P : ipQ} (e2 : h r_0 = some (.inr (0, fs1))) (e3 : fs1[0]? = some (.ref q_fs1_0)) (e5 : h q_fs1_0 = some (.inr (4, fs4))) (e6 : fs4[0]? = some (.ref q_fs4_0)) (e9 : h q_fs4_0 = some (.inl (4, n7, .inr (.inr (.inr (.inr f8)))))) (b10 : a_2 < n7) (c11 : n7 < 2147483648) (e13 : f8 a_2 = some q12) (e15 : h q12 = some (.inr (2, fs14))) (m16 : c ≤ MC) (m17 : s ≤ MS) (hc : call 12 [(.ref q12), (.ref r_1)] h z 0 0 P) (K : ∀ (o : Option Value) (h2 : HP) (z2 : Nat), P o h2 z2 → ip sc call 3 MC MS Q 47 [some (.ref r_0), some (.ref r_1), some (.int (nI a_2))] (o.toList ++ []) h2 z2 c s) : ip sc call 3 MC MS Q 34 [some (.ref r_0), some (.ref r_1), some (.int (nI a_2))] [] h z c s := by
  refine jp_load (pc2 := 35) (n := 0) rfl rfl rfl rfl ?_
  refine jp_getf (pc2 := 38) rfl rfl e2 e3 ?_
  refine jp_getf (pc2 := 41) rfl rfl e5 e6 ?_
  refine jp_load (pc2 := 42) (n := 2) rfl rfl rfl rfl ?_
  refine jp_aald (pc2 := 43) rfl rfl e9 (by decide) (vp_in_nI b10 c11) ((congrArg f8 (nI_clamp (Nat.lt_trans b10 c11))).trans e13) ?_
  refine jp_load (pc2 := 44) (n := 1) rfl rfl rfl rfl ?_
  exact jp_virt0 (pc2 := 47) (As := [(.ref r_1)]) (rest := []) rfl rfl rfl (Nat.le_of_ble_eq_true rfl) e15 m16 m17 hc rfl K
theorem c3_47 {r_0 : Nat} {o_1 : Option Value} {a_2 : Nat} {fs1 : List Value} {q_fs1_0 : Nat} {fs4 : List Value} {q_fs1_1 : Nat} {n9 : Nat} {f10 : Nat → Option Nat} {q15 : Nat} {fs17 : List Value} {v_fs17_8 : Nat} (e2 : h r_0 = some (.inr (0, fs1))) (e3 : fs1[0]? = some (.ref q_fs1_0)) (e5 : h q_fs1_0 = some (.inr (4, fs4))) (l6 : fs4.length = 3) (n7 : r_0 ≠ q_fs1_0) (e8 : fs1[1]? = some (.ref q_fs1_1)) (e11 : h q_fs1_1 = some (.inl (5, n9, .inr (.inr (.inr (.inr f10)))))) (n12 : q_fs1_1 ≠ q_fs1_0) (b13 : a_2 < n9) (c14 : n9 < 2147483648) (e16 : f10 a_2 = some q15) (e18 : h q15 = some (.inr (6, fs17))) (n19 : q15 ≠ q_fs1_0) (e20 : fs17[8]? = some (.int (nI v_fs17_8))) (q21 : Q (some (.int (nI v_fs17_8))) (hup h q_fs1_0 (.inr (4, (fs4.set 2 (.int (nI (a_2 + 1))))))) z)  : ip sc call 3 MC MS Q 47 [some (.ref r_0), o_1, some (.int (nI a_2))] [] h z c s := by
  refine jp_load (pc2 := 48) (n := 0) rfl rfl rfl rfl ?_
  refine jp_getf (pc2 := 51) rfl rfl e2 e3 ?_
  refine jp_load (pc2 := 52) (n := 2) rfl rfl rfl rfl ?_
  refine jp_con (pc2 := 53) (v := (.int (nI 1))) rfl rfl rfl ?_
  refine jp_bin (pc2 := 54) (v := nI (a_2 + 1)) rfl rfl (congrArg some (nI_add _ _)) ?_
  refine jp_putf (pc2 := 57) rfl rfl e5 (ln_lt l6 (by decide)) ⟨rfl, rfl⟩ ?_
  refine jp_load (pc2 := 58) (n := 0) rfl rfl rfl rfl ?_
  refine jp_getf (pc2 := 61) rfl rfl (hup_ne n7 e2) e8 ?_
  refine jp_load (pc2 := 62) (n := 2) rfl rfl rfl rfl ?_
  refine jp_aald (pc2 := 63) rfl rfl (hup_ne n12 e11) (by decide) (vp_in_nI b13 c14) ((congrArg f10 (nI_clamp (Nat.lt_trans b13 c14))).trans e16) ?_
  refine jp_getf (pc2 := 66) rfl rfl (hup_ne n19 e18) e20 ?_
  exact ip_iret (st := []) rfl rfl rfl q21
theorem c4_0 {r_0 : Nat} {fs1 : List Value} {q_fs1_0 : Nat} {fs4 : List Value} {v_fs4_2 : Nat} (e2 : h r_0 = some (.inr (0, fs1))) (e3 : fs1[0]? = some (.ref q_fs1_0)) (e5 : h q_fs1_0 = some (.inr (4, fs4))) (e6 : fs4[2]? = some (.int (nI v_fs4_2))) (c7 : v_fs4_2 < 2147483648) (K1 : ¬ v_fs4_2 = 0 → ip sc call 4 MC MS Q 12 [some (.ref r_0)] [] h z c s) (K2 : ¬ (¬ v_fs4_2 = 0) → ip sc call 4 MC MS Q 10 [some (.ref r_0)] [] h z c s) : ip sc call 4 MC MS Q 0 [some (.ref r_0)] [] h z c s := by
  refine jp_load (pc2 := 1) (n := 0) rfl rfl rfl rfl ?_
  refine jp_getf (pc2 := 4) rfl rfl e2 e3 ?_
  refine jp_getf (pc2 := 7) rfl rfl e5 e6 ?_
  exact jp_if0 (pc2 := 10) rfl rfl (fun q => K1 ((not_congr (nI_eq c7 (by decide))).mp q)) (fun q => K2 (fun r => q ((not_congr (nI_eq c7 (by decide))).mpr r)))
theorem c4_10 {o_0 : Option Value} (q1 : Q (some (.int ((-1)))) h z)  : ip sc call 4 MC MS Q 10 [o_0] [] h z c s := by
  refine jp_con (pc2 := 11) (v := (.int ((-1)))) rfl rfl rfl ?_
  exact ip_iret (st := []) rfl rfl rfl q1
theorem c4_12 {r_0 : Nat} {fs1 : List Value} {q_fs1_0 : Nat} {fs4 : List Value} {v_fs4_2 : Nat} (e2 : h r_0 = some (.inr (0, fs1))) (e3 : fs1[0]? = some (.ref q_fs1_0)) (e5 : h q_fs1_0 = some (.inr (4, fs4))) (e6 : fs4[2]? = some (.int (nI v_fs4_2))) (d7 : 1 ≤ v_fs4_2) (l8 : fs4.length = 3) (n9 : r_0 ≠ q_fs1_0) (q10 : Q (some (.int (nI (v_fs4_2 - 1)))) (hup h q_fs1_0 (.inr (4, (fs4.set 2 (.int (nI (v_fs4_2 - 1))))))) z)  : ip sc call 4 MC MS Q 12 [some (.ref r_0)] [] h z c s := by
  refine jp_load (pc2 := 13) (n := 0) rfl rfl rfl rfl ?_
  refine jp_getf (pc2 := 16) rfl rfl e2 e3 ?_
  refine jp_dup (pc2 := 17) rfl rfl rfl ?_
  refine jp_getf (pc2 := 20) rfl rfl e5 e6 ?_
  refine jp_con (pc2 := 21) (v := (.int (nI 1))) rfl rfl rfl ?_
  refine jp_bin (pc2 := 22) (v := nI (v_fs4_2 - 1)) rfl rfl (congrArg some (pk_sub d7)) ?_
  refine jp_putf (pc2 := 25) rfl rfl e5 (ln_lt l8 (by decide)) ⟨rfl, rfl⟩ ?_
  refine jp_load (pc2 := 26) (n := 0) rfl rfl rfl rfl ?_
  refine jp_getf (pc2 := 29) rfl rfl (hup_ne n9 e2) e3 ?_
  refine jp_getf (pc2 := 32) rfl rfl hup_eq (gs_eq (ln_lt l8 (by decide))) ?_
  exact ip_iret (st := []) rfl rfl rfl q10
theorem c5_0 {r_0 : Nat} {r_1 : Nat} {o_2 : Option Value} {fs1 : List Value} {v_fs1_1 : Nat} {fs4 : List Value} {P : ipQ} (e2 : h r_1 = some (.inr (4, fs1))) (e3 : fs1[1]? = some (.int (nI v_fs1_1))) (e5 : h r_0 = some (.inr (0, fs4))) (m6 : c ≤ MC) (m7 : s ≤ MS) (hc : call 2 [(.ref r_0), (.int (nI v_fs1_1))] h z 0 0 P) (K : ∀ (o : Option Value) (h2 : HP) (z2 : Nat), P o h2 z2 → ip sc call 5 MC MS Q 8 [some (.ref r_0), some (.ref r_1), o_2] (o.toList ++ []) h2 z2 c s) : ip sc call 5 MC MS Q 0 [some (.ref r_0), some (.ref r_1), o_2] [] h z c s := by
  refine jp_load (pc2 := 1) (n := 0) rfl rfl rfl rfl ?_
  refine jp_load (pc2 := 2) (n := 1) rfl rfl rfl rfl ?_
  refine jp_getf (pc2 := 5) rfl rfl e2 e3 ?_
  exact jp_virt0 (pc2 := 8) (As := [(.int (nI v_fs1_1))]) (rest := []) rfl rfl rfl (Nat.le_of_ble_eq_true rfl) e5 m6 m7 hc rfl K
theorem c5_8 {r_0 : Nat} {r_1 : Nat} {o_2 : Option Value}  (K : ip sc call 5 MC MS Q 10 [some (.ref r_0), some (.ref r_1), some (.int (nI 0))] [] h z c s) : ip sc call 5 MC MS Q 8 [some (.ref r_0), some (.ref r_1), o_2] [] h z c s := by
  refine jp_con (pc2 := 9) (v := (.int (nI 0))) rfl rfl rfl ?_
  refine jp_store (pc2 := 10) (n := 2) rfl rfl ⟨rfl, rfl⟩ rfl (Nat.le_of_ble_eq_true rfl) ?_
  exact K
theorem c5_10 {r_0 : Nat} {r_1 : Nat} {a_2 : Nat} {fs1 : List Value} {v_fs1_2 : Nat} (e2 : h r_1 = some (.inr (4, fs1))) (e3 : fs1[2]? = some (.int (nI v_fs1_2))) (c4 : a_2 < 2147483648) (c5 : v_fs1_2 < 2147483648) (K1 : v_fs1_2 ≤ a_2 → ip sc call 5 MC MS Q 35 [some (.ref r_0), some (.ref r_1), some (.int (nI a_2))] [] h z c s) (K2 : ¬ (v_fs1_2 ≤ a_2) → ip sc call 5 MC MS Q 18 [some (.ref r_0), some (.ref r_1), some (.int (nI a_2))] [] h z c s) : ip sc call 5 MC MS Q 10 [some (.ref r_0), some (.ref r_1), some (.int (nI a_2))] [] h z c s := by
  refine jp_load (pc2 := 11) (n := 2) rfl rfl rfl rfl ?_
  refine jp_load (pc2 := 12) (n := 1) rfl rfl rfl rfl ?_
  refine jp_getf (pc2 := 15) rfl rfl e2 e3 ?_
  exact jp_icmp (pc2 := 18) rfl rfl (fun q => K1 ((nI_leI c5 c4).mp q)) (fun q => K2 (fun r => q ((nI_leI c5 c4).mpr r)))
theorem c5_18 {r_0 : Nat} {r_1 : Nat} {a_2 : Nat} {fs1 : List Value} {q_fs1_0 : Nat} {n4 : Nat} {f5 : Nat → Option Nat} {q9 : Nat} {fs11 : List Value} {P : ipQ} (e2 : h r_1 = some (.inr (4, fs1))) (e3 : fs1[0]? = some (.ref q_fs1_0)) (e6 : h q_fs1_0 = some (.inl (4, n4, .inr (.inr (.inr (.inr f5)))))) (b7 : a_2 < n4) (c8 : n4 < 2147483648) (e10 : f5 a_2 = some q9) (e12 : h r_0 = some (.inr (0, fs11))) (m13 : c ≤ MC) (m14 : s ≤ MS) (hc : call 3 [(.ref r_0), (.ref q9)] h z 0 0 P) (K : ∀ (o : Option Value) (h2 : HP) (z2 : Nat), P o h2 z2 → ip sc call 5 MC MS Q 28 [some (.ref r_0), some (.ref r_1), some (.int (nI a_2))] (o.toList ++ []) h2 z2 c s) : ip sc call 5 MC MS Q 18 [some (.ref r_0), some (.ref r_1), some (.int (nI a_2))] [] h z c s := by
  refine jp_load (pc2 := 19) (n := 0) rfl rfl rfl rfl ?_
  refine jp_load (pc2 := 20) (n := 1) rfl rfl rfl rfl ?_
  refine jp_getf (pc2 := 23) rfl rfl e2 e3 ?_
  refine jp_load (pc2 := 24) (n := 2) rfl rfl rfl rfl ?_
  refine jp_aald (pc2 := 25) rfl rfl e6 (by decide) (vp_in_nI b7 c8) ((congrArg f5 (nI_clamp (Nat.lt_trans b7 c8))).trans e10) ?_
  exact jp_virt0 (pc2 := 28) (As := [(.ref q9)]) (rest := []) rfl rfl rfl (Nat.le_of_ble_eq_true rfl) e12 m13 m14 hc rfl K
theorem c5_28 {r_0 : Nat} {r_1 : Nat} {a_2 : Nat} {sa_0 : Nat}  (K : ip sc call 5 MC MS Q 10 [some (.ref r_0), some (.ref r_1), some (.int (nI (a_2 + 1)))] [] h z c s) : ip sc call 5 MC MS Q 28 [some (.ref r_0), some (.ref r_1), some (.int (nI a_2))] [(.int (nI sa_0))] h z c s := by
  refine jp_pop (pc2 := 29) rfl rfl rfl ?_
  refine jp_iinc (pc2 := 32) (n := 2) (v := nI (a_2 + 1)) rfl rfl rfl (nI_add _ 1) rfl ?_
  refine ip_goto rfl ?_
  exact K
theorem c5_35 {o_0 : Option Value} {o_1 : Option Value} {o_2 : Option Value} (q1 : Q none h z)  : ip sc call 5 MC MS Q 35 [o_0, o_1, o_2] [] h z c s := by
  exact ip_vret (st := []) rfl rfl q1
-- c6_0 by hand: a making: raw
theorem c7_0 {o_0 : Option Value} {y_1 : Int64} {o_2 : Option Value} {y_3 : Int64} {o_4 : Option Value} {a_5 : Nat} {o_6 : Option Value} {o_7 : Option Value} {x1 : Int32} (w2 : ((((((y_1 * 31) + y_3) * ((-7046029254386353131))).toUInt64 >>> ((nI 52).toInt64.toUInt64 &&& Int64.toUInt64 63)).toInt64).toInt32) + (nI a_5) = x1) (q3 : Q (some (.int (x1 &&& (nI 4095)))) h z)  : ip sc call 7 MC MS Q 0 [o_0, some (.long y_1), o_2, some (.long y_3), o_4, some (.int (nI a_5)), o_6, o_7] [] h z c s := by
  refine jp_load (pc2 := 1) (n := 1) rfl rfl rfl rfl ?_
  refine jp_con (pc2 := 4) (v := .long 31) rfl rfl rfl ?_
  refine jp_lbin (pc2 := 5) (v := y_1 * 31) rfl rfl rfl ?_
  refine jp_load (pc2 := 6) (n := 3) rfl rfl rfl rfl ?_
  refine jp_lbin (pc2 := 7) (v := (y_1 * 31) + y_3) rfl rfl rfl ?_
  refine jp_con (pc2 := 10) (v := .long (-7046029254386353131)) rfl rfl rfl ?_
  refine jp_lbin (pc2 := 11) (v := ((y_1 * 31) + y_3) * ((-7046029254386353131))) rfl rfl rfl ?_
  refine jp_store2 (pc2 := 13) (n := 6) rfl rfl ⟨rfl, rfl⟩ rfl (Nat.le_of_ble_eq_true rfl) ?_
  refine jp_load (pc2 := 15) (n := 6) rfl rfl rfl rfl ?_
  refine jp_con (pc2 := 17) (v := (.int (nI 52))) rfl rfl rfl ?_
  refine jp_lsh (pc2 := 18) (v := ((((y_1 * 31) + y_3) * ((-7046029254386353131))).toUInt64 >>> ((nI 52).toInt64.toUInt64 &&& Int64.toUInt64 63)).toInt64) rfl rfl rfl ?_
  refine jp_cv (pc2 := 19) (v := (.int ((((((y_1 * 31) + y_3) * ((-7046029254386353131))).toUInt64 >>> ((nI 52).toInt64.toUInt64 &&& Int64.toUInt64 63)).toInt64).toInt32))) rfl rfl rfl ?_
  refine jp_load (pc2 := 21) (n := 5) rfl rfl rfl rfl ?_
  refine jp_bin (pc2 := 22) (v := x1) rfl rfl (congrArg some w2) ?_
  refine jp_con (pc2 := 25) (v := (.int (nI 4095))) rfl rfl rfl ?_
  refine jp_bin (pc2 := 26) (v := x1 &&& (nI 4095)) rfl rfl rfl ?_
  exact ip_iret (st := []) rfl rfl rfl q3
theorem c8_0 {r_0 : Nat} {y_1 : Int64} {o_2 : Option Value} {y_3 : Int64} {o_4 : Option Value} {o_5 : Option Value} {o_6 : Option Value} (k1 : ip2 o_4 = false) (K : ip sc call 8 MC MS Q 3 [some (.ref r_0), some (.long y_1), o_2, some (.long y_3), o_4, some (.int (nI 0)), o_6] [] h z c s) : ip sc call 8 MC MS Q 0 [some (.ref r_0), some (.long y_1), o_2, some (.long y_3), o_4, o_5, o_6] [] h z c s := by
  refine jp_con (pc2 := 1) (v := (.int (nI 0))) rfl rfl rfl ?_
  refine jp_store (pc2 := 3) (n := 5) rfl rfl ⟨rfl, rfl⟩ k1 (Nat.le_of_ble_eq_true rfl) ?_
  exact K
theorem c8_3 {r_0 : Nat} {y_1 : Int64} {o_2 : Option Value} {y_3 : Int64} {o_4 : Option Value} {a_5 : Nat} {o_6 : Option Value} (c1 : a_5 < 2147483648) (K1 : 8 ≤ a_5 → ip sc call 8 MC MS Q 72 [some (.ref r_0), some (.long y_1), o_2, some (.long y_3), o_4, some (.int (nI a_5)), o_6] [] h z c s) (K2 : ¬ (8 ≤ a_5) → ip sc call 8 MC MS Q 10 [some (.ref r_0), some (.long y_1), o_2, some (.long y_3), o_4, some (.int (nI a_5)), o_6] [] h z c s) : ip sc call 8 MC MS Q 3 [some (.ref r_0), some (.long y_1), o_2, some (.long y_3), o_4, some (.int (nI a_5)), o_6] [] h z c s := by
  refine jp_load (pc2 := 5) (n := 5) rfl rfl rfl rfl ?_
  refine jp_con (pc2 := 7) (v := (.int (nI 8))) rfl rfl rfl ?_
  exact jp_icmp (pc2 := 10) rfl rfl (fun q => K1 ((nI_leI (by decide) c1).mp q)) (fun q => K2 (fun r => q ((nI_leI (by decide) c1).mpr r)))
theorem c8_10 {r_0 : Nat} {y_1 : Int64} {o_2 : Option Value} {y_3 : Int64} {o_4 : Option Value} {a_5 : Nat} {o_6 : Option Value} {fs1 : List Value} {P : ipQ} (e2 : h r_0 = some (.inr (1, fs1))) (m3 : c ≤ MC) (m4 : s ≤ MS) (hc : call 7 [(.ref r_0), (.long y_1), (.long y_3), (.int (nI a_5))] h z 0 0 P) (K : ∀ (o : Option Value) (h2 : HP) (z2 : Nat), P o h2 z2 → ip sc call 8 MC MS Q 18 [some (.ref r_0), some (.long y_1), o_2, some (.long y_3), o_4, some (.int (nI a_5)), o_6] (o.toList ++ []) h2 z2 c s) : ip sc call 8 MC MS Q 10 [some (.ref r_0), some (.long y_1), o_2, some (.long y_3), o_4, some (.int (nI a_5)), o_6] [] h z c s := by
  refine jp_load (pc2 := 11) (n := 0) rfl rfl rfl rfl ?_
  refine jp_load (pc2 := 12) (n := 1) rfl rfl rfl rfl ?_
  refine jp_load (pc2 := 13) (n := 3) rfl rfl rfl rfl ?_
  refine jp_load (pc2 := 15) (n := 5) rfl rfl rfl rfl ?_
  exact jp_virt0 (pc2 := 18) (As := [(.long y_1), (.long y_3), (.int (nI a_5))]) (rest := []) rfl rfl rfl (Nat.le_of_ble_eq_true rfl) e2 m3 m4 hc rfl K
theorem c8_18 {r_0 : Nat} {y_1 : Int64} {o_2 : Option Value} {y_3 : Int64} {o_4 : Option Value} {a_5 : Nat} {o_6 : Option Value} {sa_0 : Nat} {fs1 : List Value} {q_fs1_2 : Nat} {n4 : Nat} {f5 : Nat → Int32} {x9 : Int32} (e2 : h r_0 = some (.inr (1, fs1))) (e3 : fs1[2]? = some (.ref q_fs1_2)) (e6 : h q_fs1_2 = some (.inl (2, n4, .inl f5))) (b7 : sa_0 < n4) (c8 : n4 < 2147483648) (e10 : f5 sa_0 = x9) (K1 : ¬ x9 = 0 → ip sc call 8 MC MS Q 32 [some (.ref r_0), some (.long y_1), o_2, some (.long y_3), o_4, some (.int (nI a_5)), some (.int (nI sa_0))] [] h z c s) (K2 : ¬ (¬ x9 = 0) → ip sc call 8 MC MS Q 30 [some (.ref r_0), some (.long y_1), o_2, some (.long y_3), o_4, some (.int (nI a_5)), some (.int (nI sa_0))] [] h z c s) : ip sc call 8 MC MS Q 18 [some (.ref r_0), some (.long y_1), o_2, some (.long y_3), o_4, some (.int (nI a_5)), o_6] [(.int (nI sa_0))] h z c s := by
  refine jp_store (pc2 := 20) (n := 6) rfl rfl ⟨rfl, rfl⟩ rfl (Nat.le_of_ble_eq_true rfl) ?_
  refine jp_load (pc2 := 21) (n := 0) rfl rfl rfl rfl ?_
  refine jp_getf (pc2 := 24) rfl rfl e2 e3 ?_
  refine jp_load (pc2 := 26) (n := 6) rfl rfl rfl rfl ?_
  refine jp_bald (pc2 := 27) rfl rfl e6 (by decide) (vp_in_nI b7 c8) ?_
  rw [(nI_clamp (Nat.lt_trans b7 c8))]
  rw [e10]
  exact jp_if0 (pc2 := 30) rfl rfl K1 K2
theorem c8_30 {o_0 : Option Value} {o_1 : Option Value} {o_2 : Option Value} {o_3 : Option Value} {o_4 : Option Value} {o_5 : Option Value} {o_6 : Option Value} (q1 : Q (some (.int ((-1)))) h z)  : ip sc call 8 MC MS Q 30 [o_0, o_1, o_2, o_3, o_4, o_5, o_6] [] h z c s := by
  refine jp_con (pc2 := 31) (v := (.int ((-1)))) rfl rfl rfl ?_
  exact ip_iret (st := []) rfl rfl rfl q1
theorem c8_32 {r_0 : Nat} {y_1 : Int64} {o_2 : Option Value} {y_3 : Int64} {o_4 : Option Value} {a_5 : Nat} {a_6 : Nat} {fs1 : List Value} {q_fs1_0 : Nat} {n4 : Nat} {f5 : Nat → Int64} (e2 : h r_0 = some (.inr (1, fs1))) (e3 : fs1[0]? = some (.ref q_fs1_0)) (e6 : h q_fs1_0 = some (.inl (1, n4, .inr (.inl f5)))) (b7 : a_6 < n4) (c8 : n4 < 2147483648) (K1 : ¬ (lg_cmp (f5 a_6) y_1) = 0 → ip sc call 8 MC MS Q 66 [some (.ref r_0), some (.long y_1), o_2, some (.long y_3), o_4, some (.int (nI a_5)), some (.int (nI a_6))] [] h z c s) (K2 : ¬ (¬ (lg_cmp (f5 a_6) y_1) = 0) → ip sc call 8 MC MS Q 44 [some (.ref r_0), some (.long y_1), o_2, some (.long y_3), o_4, some (.int (nI a_5)), some (.int (nI a_6))] [] h z c s) : ip sc call 8 MC MS Q 32 [some (.ref r_0), some (.long y_1), o_2, some (.long y_3), o_4, some (.int (nI a_5)), some (.int (nI a_6))] [] h z c s := by
  refine jp_load (pc2 := 33) (n := 0) rfl rfl rfl rfl ?_
  refine jp_getf (pc2 := 36) rfl rfl e2 e3 ?_
  refine jp_load (pc2 := 38) (n := 6) rfl rfl rfl rfl ?_
  refine jp_lald (pc2 := 39) rfl rfl e6 (vp_in_nI b7 c8) ?_
  rw [(nI_clamp (Nat.lt_trans b7 c8))]
  refine jp_load (pc2 := 40) (n := 1) rfl rfl rfl rfl ?_
  refine jp_lcmp (pc2 := 41) rfl rfl ?_
  exact jp_if0 (pc2 := 44) rfl rfl K1 K2
theorem c8_44 {r_0 : Nat} {y_1 : Int64} {o_2 : Option Value} {y_3 : Int64} {o_4 : Option Value} {a_5 : Nat} {a_6 : Nat} {fs1 : List Value} {q_fs1_1 : Nat} {n4 : Nat} {f5 : Nat → Int64} (e2 : h r_0 = some (.inr (1, fs1))) (e3 : fs1[1]? = some (.ref q_fs1_1)) (e6 : h q_fs1_1 = some (.inl (1, n4, .inr (.inl f5)))) (b7 : a_6 < n4) (c8 : n4 < 2147483648) (K1 : ¬ (lg_cmp (f5 a_6) y_3) = 0 → ip sc call 8 MC MS Q 66 [some (.ref r_0), some (.long y_1), o_2, some (.long y_3), o_4, some (.int (nI a_5)), some (.int (nI a_6))] [] h z c s) (K2 : ¬ (¬ (lg_cmp (f5 a_6) y_3) = 0) → ip sc call 8 MC MS Q 56 [some (.ref r_0), some (.long y_1), o_2, some (.long y_3), o_4, some (.int (nI a_5)), some (.int (nI a_6))] [] h z c s) : ip sc call 8 MC MS Q 44 [some (.ref r_0), some (.long y_1), o_2, some (.long y_3), o_4, some (.int (nI a_5)), some (.int (nI a_6))] [] h z c s := by
  refine jp_load (pc2 := 45) (n := 0) rfl rfl rfl rfl ?_
  refine jp_getf (pc2 := 48) rfl rfl e2 e3 ?_
  refine jp_load (pc2 := 50) (n := 6) rfl rfl rfl rfl ?_
  refine jp_lald (pc2 := 51) rfl rfl e6 (vp_in_nI b7 c8) ?_
  rw [(nI_clamp (Nat.lt_trans b7 c8))]
  refine jp_load (pc2 := 52) (n := 3) rfl rfl rfl rfl ?_
  refine jp_lcmp (pc2 := 53) rfl rfl ?_
  exact jp_if0 (pc2 := 56) rfl rfl K1 K2
theorem c8_56 {r_0 : Nat} {o_1 : Option Value} {o_2 : Option Value} {o_3 : Option Value} {o_4 : Option Value} {o_5 : Option Value} {a_6 : Nat} {fs1 : List Value} {q_fs1_2 : Nat} {n4 : Nat} {f5 : Nat → Int32} {x9 : Int32} (e2 : h r_0 = some (.inr (1, fs1))) (e3 : fs1[2]? = some (.ref q_fs1_2)) (e6 : h q_fs1_2 = some (.inl (2, n4, .inl f5))) (b7 : a_6 < n4) (c8 : n4 < 2147483648) (e10 : f5 a_6 = x9) (q11 : Q (some (.int (x9 - (nI 1)))) h z)  : ip sc call 8 MC MS Q 56 [some (.ref r_0), o_1, o_2, o_3, o_4, o_5, some (.int (nI a_6))] [] h z c s := by
  refine jp_load (pc2 := 57) (n := 0) rfl rfl rfl rfl ?_
  refine jp_getf (pc2 := 60) rfl rfl e2 e3 ?_
  refine jp_load (pc2 := 62) (n := 6) rfl rfl rfl rfl ?_
  refine jp_bald (pc2 := 63) rfl rfl e6 (by decide) (vp_in_nI b7 c8) ?_
  rw [(nI_clamp (Nat.lt_trans b7 c8))]
  rw [e10]
  refine jp_con (pc2 := 64) (v := (.int (nI 1))) rfl rfl rfl ?_
  refine jp_bin (pc2 := 65) (v := x9 - (nI 1)) rfl rfl rfl ?_
  exact ip_iret (st := []) rfl rfl rfl q11
theorem c8_66 {r_0 : Nat} {y_1 : Int64} {o_2 : Option Value} {y_3 : Int64} {o_4 : Option Value} {a_5 : Nat} {o_6 : Option Value} (k1 : ip2 o_4 = false) (K : ip sc call 8 MC MS Q 3 [some (.ref r_0), some (.long y_1), o_2, some (.long y_3), o_4, some (.int (nI (a_5 + 1))), o_6] [] h z c s) : ip sc call 8 MC MS Q 66 [some (.ref r_0), some (.long y_1), o_2, some (.long y_3), o_4, some (.int (nI a_5)), o_6] [] h z c s := by
  refine jp_iinc (pc2 := 69) (n := 5) (v := nI (a_5 + 1)) rfl rfl rfl (nI_add _ 1) k1 ?_
  refine ip_goto rfl ?_
  exact K
theorem c8_72 {o_0 : Option Value} {o_1 : Option Value} {o_2 : Option Value} {o_3 : Option Value} {o_4 : Option Value} {o_5 : Option Value} {o_6 : Option Value} (q1 : Q (some (.int ((-1)))) h z)  : ip sc call 8 MC MS Q 72 [o_0, o_1, o_2, o_3, o_4, o_5, o_6] [] h z c s := by
  refine jp_con (pc2 := 73) (v := (.int ((-1)))) rfl rfl rfl ?_
  exact ip_iret (st := []) rfl rfl rfl q1
theorem c9_0 {r_0 : Nat} {y_1 : Int64} {o_2 : Option Value} {y_3 : Int64} {o_4 : Option Value} {a_5 : Nat} {o_6 : Option Value} {o_7 : Option Value} {o_8 : Option Value} {fs1 : List Value} {P : ipQ} (e2 : h r_0 = some (.inr (1, fs1))) (m3 : c ≤ MC) (m4 : s ≤ MS) (hc : call 7 [(.ref r_0), (.long y_1), (.long y_3), (.int (nI 0))] h z 0 0 P) (K : ∀ (o : Option Value) (h2 : HP) (z2 : Nat), P o h2 z2 → ip sc call 9 MC MS Q 7 [some (.ref r_0), some (.long y_1), o_2, some (.long y_3), o_4, some (.int (nI a_5)), o_6, o_7, o_8] (o.toList ++ []) h2 z2 c s) : ip sc call 9 MC MS Q 0 [some (.ref r_0), some (.long y_1), o_2, some (.long y_3), o_4, some (.int (nI a_5)), o_6, o_7, o_8] [] h z c s := by
  refine jp_load (pc2 := 1) (n := 0) rfl rfl rfl rfl ?_
  refine jp_load (pc2 := 2) (n := 1) rfl rfl rfl rfl ?_
  refine jp_load (pc2 := 3) (n := 3) rfl rfl rfl rfl ?_
  refine jp_con (pc2 := 4) (v := (.int (nI 0))) rfl rfl rfl ?_
  exact jp_virt0 (pc2 := 7) (As := [(.long y_1), (.long y_3), (.int (nI 0))]) (rest := []) rfl rfl rfl (Nat.le_of_ble_eq_true rfl) e2 m3 m4 hc rfl K
theorem c9_7 {r_0 : Nat} {y_1 : Int64} {o_2 : Option Value} {y_3 : Int64} {o_4 : Option Value} {a_5 : Nat} {o_6 : Option Value} {o_7 : Option Value} {o_8 : Option Value} {sa_0 : Nat}  (K : ip sc call 9 MC MS Q 13 [some (.ref r_0), some (.long y_1), o_2, some (.long y_3), o_4, some (.int (nI a_5)), some (.int (nI sa_0)), some (.int (nI 7)), o_8] [] h z c s) : ip sc call 9 MC MS Q 7 [some (.ref r_0), some (.long y_1), o_2, some (.long y_3), o_4, some (.int (nI a_5)), o_6, o_7, o_8] [(.int (nI sa_0))] h z c s := by
  refine jp_store (pc2 := 9) (n := 6) rfl rfl ⟨rfl, rfl⟩ rfl (Nat.le_of_ble_eq_true rfl) ?_
  refine jp_con (pc2 := 11) (v := (.int (nI 7))) rfl rfl rfl ?_
  refine jp_store (pc2 := 13) (n := 7) rfl rfl ⟨rfl, rfl⟩ rfl (Nat.le_of_ble_eq_true rfl) ?_
  exact K
theorem c9_13 {r_0 : Nat} {y_1 : Int64} {o_2 : Option Value} {y_3 : Int64} {o_4 : Option Value} {a_5 : Nat} {a_6 : Nat} {a_7 : Nat} {o_8 : Option Value} (c1 : a_7 < 2147483648) (K1 : a_7 < 0 → ip sc call 9 MC MS Q 48 [some (.ref r_0), some (.long y_1), o_2, some (.long y_3), o_4, some (.int (nI a_5)), some (.int (nI a_6)), some (.int (nI a_7)), o_8] [] h z c s) (K2 : ¬ (a_7 < 0) → ip sc call 9 MC MS Q 18 [some (.ref r_0), some (.long y_1), o_2, some (.long y_3), o_4, some (.int (nI a_5)), some (.int (nI a_6)), some (.int (nI a_7)), o_8] [] h z c s) : ip sc call 9 MC MS Q 13 [some (.ref r_0), some (.long y_1), o_2, some (.long y_3), o_4, some (.int (nI a_5)), some (.int (nI a_6)), some (.int (nI a_7)), o_8] [] h z c s := by
  refine jp_load (pc2 := 15) (n := 7) rfl rfl rfl rfl ?_
  exact jp_if0 (pc2 := 18) rfl rfl (fun q => K1 ((nI_ltI c1 (by decide)).mp q)) (fun q => K2 (fun r => q ((nI_ltI c1 (by decide)).mpr r)))
theorem c9_18 {r_0 : Nat} {y_1 : Int64} {o_2 : Option Value} {y_3 : Int64} {o_4 : Option Value} {a_5 : Nat} {a_6 : Nat} {a_7 : Nat} {o_8 : Option Value} {fs1 : List Value} {P : ipQ} (e2 : h r_0 = some (.inr (1, fs1))) (m3 : c ≤ MC) (m4 : s ≤ MS) (hc : call 7 [(.ref r_0), (.long y_1), (.long y_3), (.int (nI a_7))] h z 0 0 P) (K : ∀ (o : Option Value) (h2 : HP) (z2 : Nat), P o h2 z2 → ip sc call 9 MC MS Q 26 [some (.ref r_0), some (.long y_1), o_2, some (.long y_3), o_4, some (.int (nI a_5)), some (.int (nI a_6)), some (.int (nI a_7)), o_8] (o.toList ++ []) h2 z2 c s) : ip sc call 9 MC MS Q 18 [some (.ref r_0), some (.long y_1), o_2, some (.long y_3), o_4, some (.int (nI a_5)), some (.int (nI a_6)), some (.int (nI a_7)), o_8] [] h z c s := by
  refine jp_load (pc2 := 19) (n := 0) rfl rfl rfl rfl ?_
  refine jp_load (pc2 := 20) (n := 1) rfl rfl rfl rfl ?_
  refine jp_load (pc2 := 21) (n := 3) rfl rfl rfl rfl ?_
  refine jp_load (pc2 := 23) (n := 7) rfl rfl rfl rfl ?_
  exact jp_virt0 (pc2 := 26) (As := [(.long y_1), (.long y_3), (.int (nI a_7))]) (rest := []) rfl rfl rfl (Nat.le_of_ble_eq_true rfl) e2 m3 m4 hc rfl K
theorem c9_26 {r_0 : Nat} {y_1 : Int64} {o_2 : Option Value} {y_3 : Int64} {o_4 : Option Value} {a_5 : Nat} {a_6 : Nat} {a_7 : Nat} {o_8 : Option Value} {sa_0 : Nat} {fs1 : List Value} {q_fs1_2 : Nat} {n4 : Nat} {f5 : Nat → Int32} {x9 : Int32} (e2 : h r_0 = some (.inr (1, fs1))) (e3 : fs1[2]? = some (.ref q_fs1_2)) (e6 : h q_fs1_2 = some (.inl (2, n4, .inl f5))) (b7 : sa_0 < n4) (c8 : n4 < 2147483648) (e10 : f5 sa_0 = x9) (K1 : ¬ x9 = 0 → ip sc call 9 MC MS Q 42 [some (.ref r_0), some (.long y_1), o_2, some (.long y_3), o_4, some (.int (nI a_5)), some (.int (nI a_6)), some (.int (nI a_7)), some (.int (nI sa_0))] [] h z c s) (K2 : ¬ (¬ x9 = 0) → ip sc call 9 MC MS Q 38 [some (.ref r_0), some (.long y_1), o_2, some (.long y_3), o_4, some (.int (nI a_5)), some (.int (nI a_6)), some (.int (nI a_7)), some (.int (nI sa_0))] [] h z c s) : ip sc call 9 MC MS Q 26 [some (.ref r_0), some (.long y_1), o_2, some (.long y_3), o_4, some (.int (nI a_5)), some (.int (nI a_6)), some (.int (nI a_7)), o_8] [(.int (nI sa_0))] h z c s := by
  refine jp_store (pc2 := 28) (n := 8) rfl rfl ⟨rfl, rfl⟩ rfl (Nat.le_of_ble_eq_true rfl) ?_
  refine jp_load (pc2 := 29) (n := 0) rfl rfl rfl rfl ?_
  refine jp_getf (pc2 := 32) rfl rfl e2 e3 ?_
  refine jp_load (pc2 := 34) (n := 8) rfl rfl rfl rfl ?_
  refine jp_bald (pc2 := 35) rfl rfl e6 (by decide) (vp_in_nI b7 c8) ?_
  rw [(nI_clamp (Nat.lt_trans b7 c8))]
  rw [e10]
  exact jp_if0 (pc2 := 38) rfl rfl K1 K2
theorem c9_38 {r_0 : Nat} {y_1 : Int64} {o_2 : Option Value} {y_3 : Int64} {o_4 : Option Value} {a_5 : Nat} {o_6 : Option Value} {a_7 : Nat} {a_8 : Nat}  (K : ip sc call 9 MC MS Q 42 [some (.ref r_0), some (.long y_1), o_2, some (.long y_3), o_4, some (.int (nI a_5)), some (.int (nI a_8)), some (.int (nI a_7)), some (.int (nI a_8))] [] h z c s) : ip sc call 9 MC MS Q 38 [some (.ref r_0), some (.long y_1), o_2, some (.long y_3), o_4, some (.int (nI a_5)), o_6, some (.int (nI a_7)), some (.int (nI a_8))] [] h z c s := by
  refine jp_load (pc2 := 40) (n := 8) rfl rfl rfl rfl ?_
  refine jp_store (pc2 := 42) (n := 6) rfl rfl ⟨rfl, rfl⟩ rfl (Nat.le_of_ble_eq_true rfl) ?_
  exact K
theorem c9_42 {r_0 : Nat} {y_1 : Int64} {o_2 : Option Value} {y_3 : Int64} {o_4 : Option Value} {a_5 : Nat} {a_6 : Nat} {a_7 : Nat} {o_8 : Option Value} (d1 : 1 ≤ a_7) (K : ip sc call 9 MC MS Q 13 [some (.ref r_0), some (.long y_1), o_2, some (.long y_3), o_4, some (.int (nI a_5)), some (.int (nI a_6)), some (.int (nI (a_7 - 1))), o_8] [] h z c s) : ip sc call 9 MC MS Q 42 [some (.ref r_0), some (.long y_1), o_2, some (.long y_3), o_4, some (.int (nI a_5)), some (.int (nI a_6)), some (.int (nI a_7)), o_8] [] h z c s := by
  refine jp_iinc (pc2 := 45) (n := 7) (v := nI (a_7 - 1)) rfl rfl rfl (nI_dec d1) rfl ?_
  refine ip_goto rfl ?_
  exact K
theorem c9_48 {r_0 : Nat} {y_1 : Int64} {o_2 : Option Value} {y_3 : Int64} {o_4 : Option Value} {a_5 : Nat} {a_6 : Nat} {o_7 : Option Value} {o_8 : Option Value} {fs1 : List Value} {q_fs1_0 : Nat} {n4 : Nat} {f5 : Nat → Int64} {g9 : Nat → Int64} {q_fs1_1 : Nat} {n13 : Nat} {f14 : Nat → Int64} {g19 : Nat → Int64} {q_fs1_2 : Nat} {n23 : Nat} {f24 : Nat → Int32} {g30 : Nat → Int32} (e2 : h r_0 = some (.inr (1, fs1))) (e3 : fs1[0]? = some (.ref q_fs1_0)) (e6 : h q_fs1_0 = some (.inl (1, n4, .inr (.inl f5)))) (b7 : a_6 < n4) (c8 : n4 < 2147483648) (d10 : vp_updL f5 a_6 y_1 = g9) (n11 : r_0 ≠ q_fs1_0) (e12 : fs1[1]? = some (.ref q_fs1_1)) (e15 : h q_fs1_1 = some (.inl (1, n13, .inr (.inl f14)))) (n16 : q_fs1_1 ≠ q_fs1_0) (b17 : a_6 < n13) (c18 : n13 < 2147483648) (d20 : vp_updL f14 a_6 y_3 = g19) (n21 : r_0 ≠ q_fs1_1) (e22 : fs1[2]? = some (.ref q_fs1_2)) (e25 : h q_fs1_2 = some (.inl (2, n23, .inl f24))) (n26 : q_fs1_2 ≠ q_fs1_0) (n27 : q_fs1_2 ≠ q_fs1_1) (b28 : a_6 < n23) (c29 : n23 < 2147483648) (d31 : upd f24 a_6 (vp_nar .byte ((nI (a_5 + 1)).toInt8.toInt32)) = g30) (q32 : Q none (hup (hup (hup h q_fs1_0 (.inl (1, n4, .inr (.inl g9)))) q_fs1_1 (.inl (1, n13, .inr (.inl g19)))) q_fs1_2 (.inl (2, n23, .inl g30))) z)  : ip sc call 9 MC MS Q 48 [some (.ref r_0), some (.long y_1), o_2, some (.long y_3), o_4, some (.int (nI a_5)), some (.int (nI a_6)), o_7, o_8] [] h z c s := by
  refine jp_load (pc2 := 49) (n := 0) rfl rfl rfl rfl ?_
  refine jp_getf (pc2 := 52) rfl rfl e2 e3 ?_
  refine jp_load (pc2 := 54) (n := 6) rfl rfl rfl rfl ?_
  refine jp_load (pc2 := 55) (n := 1) rfl rfl rfl rfl ?_
  refine jp_last (pc2 := 56) rfl rfl e6 (vp_in_nI b7 c8) ?_
  rw [(nI_clamp (Nat.lt_trans b7 c8))]
  rw [d10]
  refine jp_load (pc2 := 57) (n := 0) rfl rfl rfl rfl ?_
  refine jp_getf (pc2 := 60) rfl rfl (hup_ne n11 e2) e12 ?_
  refine jp_load (pc2 := 62) (n := 6) rfl rfl rfl rfl ?_
  refine jp_load (pc2 := 63) (n := 3) rfl rfl rfl rfl ?_
  refine jp_last (pc2 := 64) rfl rfl (hup_ne n16 e15) (vp_in_nI b17 c18) ?_
  rw [(nI_clamp (Nat.lt_trans b17 c18))]
  rw [d20]
  refine jp_load (pc2 := 65) (n := 0) rfl rfl rfl rfl ?_
  refine jp_getf (pc2 := 68) rfl rfl (hup_ne n21 (hup_ne n11 e2)) e22 ?_
  refine jp_load (pc2 := 70) (n := 6) rfl rfl rfl rfl ?_
  refine jp_load (pc2 := 72) (n := 5) rfl rfl rfl rfl ?_
  refine jp_con (pc2 := 73) (v := (.int (nI 1))) rfl rfl rfl ?_
  refine jp_bin (pc2 := 74) (v := nI (a_5 + 1)) rfl rfl (congrArg some (nI_add _ _)) ?_
  refine jp_cv (pc2 := 75) (v := (.int ((nI (a_5 + 1)).toInt8.toInt32))) rfl rfl rfl ?_
  refine jp_bast (pc2 := 76) rfl rfl (hup_ne n27 (hup_ne n26 e25)) (vp_in_nI b28 c29) ?_
  rw [(nI_clamp (Nat.lt_trans b28 c29))]
  rw [d31]
  exact ip_vret (st := []) rfl rfl q32
-- c10_0 by hand: a making: raw
theorem c11_0 {r_0 : Nat} {fs1 : List Value} (e2 : h r_0 = some (.inr (2, fs1))) (l3 : fs1.length = 6) (q4 : Q none (hup h r_0 (.inr (2, ((((((fs1.set 0 (.int (nI 0))).set 1 (.int (nI 0))).set 2 (.int (nI 0))).set 3 (.int (nI 0))).set 4 (.int ((-1)))).set 5 (.int (nI 0)))))) z)  : ip sc call 11 MC MS Q 0 [some (.ref r_0)] [] h z c s := by
  refine jp_load (pc2 := 1) (n := 0) rfl rfl rfl rfl ?_
  refine jp_con (pc2 := 2) (v := (.int (nI 0))) rfl rfl rfl ?_
  refine jp_putf (pc2 := 5) rfl rfl e2 (ln_lt l3 (by decide)) ⟨rfl, rfl⟩ ?_
  refine jp_load (pc2 := 6) (n := 0) rfl rfl rfl rfl ?_
  refine jp_con (pc2 := 7) (v := (.int (nI 0))) rfl rfl rfl ?_
  refine jp_putf (pc2 := 10) rfl rfl hup_eq (ls_lt (ln_lt l3 (by decide))) ⟨rfl, rfl⟩ ?_
  rw [hup_hup]
  refine jp_load (pc2 := 11) (n := 0) rfl rfl rfl rfl ?_
  refine jp_con (pc2 := 12) (v := (.int (nI 0))) rfl rfl rfl ?_
  refine jp_putf (pc2 := 15) rfl rfl hup_eq (ls_lt (ls_lt (ln_lt l3 (by decide)))) ⟨rfl, rfl⟩ ?_
  rw [hup_hup]
  refine jp_load (pc2 := 16) (n := 0) rfl rfl rfl rfl ?_
  refine jp_con (pc2 := 17) (v := (.int (nI 0))) rfl rfl rfl ?_
  refine jp_putf (pc2 := 20) rfl rfl hup_eq (ls_lt (ls_lt (ls_lt (ln_lt l3 (by decide))))) ⟨rfl, rfl⟩ ?_
  rw [hup_hup]
  refine jp_load (pc2 := 21) (n := 0) rfl rfl rfl rfl ?_
  refine jp_con (pc2 := 22) (v := (.int ((-1)))) rfl rfl rfl ?_
  refine jp_putf (pc2 := 25) rfl rfl hup_eq (ls_lt (ls_lt (ls_lt (ls_lt (ln_lt l3 (by decide)))))) ⟨rfl, rfl⟩ ?_
  rw [hup_hup]
  refine jp_load (pc2 := 26) (n := 0) rfl rfl rfl rfl ?_
  refine jp_con (pc2 := 27) (v := (.int (nI 0))) rfl rfl rfl ?_
  refine jp_putf (pc2 := 30) rfl rfl hup_eq (ls_lt (ls_lt (ls_lt (ls_lt (ls_lt (ln_lt l3 (by decide))))))) ⟨rfl, rfl⟩ ?_
  rw [hup_hup]
  exact ip_vret (st := []) rfl rfl q4
theorem c12_0 {r_0 : Nat} {r_1 : Nat} {fs1 : List Value} {v_fs1_0 : Nat} {fs4 : List Value} {v_fs1_1 : Nat} {v_fs1_2 : Nat} {v_fs1_3 : Nat} {v_fs1_4 : Nat} {v_fs1_5 : Nat} (e2 : h r_1 = some (.inr (2, fs1))) (e3 : fs1[0]? = some (.int (nI v_fs1_0))) (e5 : h r_0 = some (.inr (2, fs4))) (l6 : fs4.length = 6) (n7 : r_1 ≠ r_0) (e8 : fs1[1]? = some (.int (nI v_fs1_1))) (e9 : fs1[2]? = some (.int (nI v_fs1_2))) (e10 : fs1[3]? = some (.int (nI v_fs1_3))) (e11 : fs1[4]? = some (.int (nI v_fs1_4))) (e12 : fs1[5]? = some (.int (nI v_fs1_5))) (q13 : Q none (hup h r_0 (.inr (2, ((((((fs4.set 0 (.int (nI v_fs1_0))).set 1 (.int (nI v_fs1_1))).set 2 (.int (nI v_fs1_2))).set 3 (.int (nI v_fs1_3))).set 4 (.int (nI v_fs1_4))).set 5 (.int (nI v_fs1_5)))))) z)  : ip sc call 12 MC MS Q 0 [some (.ref r_0), some (.ref r_1)] [] h z c s := by
  refine jp_load (pc2 := 1) (n := 0) rfl rfl rfl rfl ?_
  refine jp_load (pc2 := 2) (n := 1) rfl rfl rfl rfl ?_
  refine jp_getf (pc2 := 5) rfl rfl e2 e3 ?_
  refine jp_putf (pc2 := 8) rfl rfl e5 (ln_lt l6 (by decide)) ⟨rfl, rfl⟩ ?_
  refine jp_load (pc2 := 9) (n := 0) rfl rfl rfl rfl ?_
  refine jp_load (pc2 := 10) (n := 1) rfl rfl rfl rfl ?_
  refine jp_getf (pc2 := 13) rfl rfl (hup_ne n7 e2) e8 ?_
  refine jp_putf (pc2 := 16) rfl rfl hup_eq (ls_lt (ln_lt l6 (by decide))) ⟨rfl, rfl⟩ ?_
  rw [hup_hup]
  refine jp_load (pc2 := 17) (n := 0) rfl rfl rfl rfl ?_
  refine jp_load (pc2 := 18) (n := 1) rfl rfl rfl rfl ?_
  refine jp_getf (pc2 := 21) rfl rfl (hup_ne n7 e2) e9 ?_
  refine jp_putf (pc2 := 24) rfl rfl hup_eq (ls_lt (ls_lt (ln_lt l6 (by decide)))) ⟨rfl, rfl⟩ ?_
  rw [hup_hup]
  refine jp_load (pc2 := 25) (n := 0) rfl rfl rfl rfl ?_
  refine jp_load (pc2 := 26) (n := 1) rfl rfl rfl rfl ?_
  refine jp_getf (pc2 := 29) rfl rfl (hup_ne n7 e2) e10 ?_
  refine jp_putf (pc2 := 32) rfl rfl hup_eq (ls_lt (ls_lt (ls_lt (ln_lt l6 (by decide))))) ⟨rfl, rfl⟩ ?_
  rw [hup_hup]
  refine jp_load (pc2 := 33) (n := 0) rfl rfl rfl rfl ?_
  refine jp_load (pc2 := 34) (n := 1) rfl rfl rfl rfl ?_
  refine jp_getf (pc2 := 37) rfl rfl (hup_ne n7 e2) e11 ?_
  refine jp_putf (pc2 := 40) rfl rfl hup_eq (ls_lt (ls_lt (ls_lt (ls_lt (ln_lt l6 (by decide)))))) ⟨rfl, rfl⟩ ?_
  rw [hup_hup]
  refine jp_load (pc2 := 41) (n := 0) rfl rfl rfl rfl ?_
  refine jp_load (pc2 := 42) (n := 1) rfl rfl rfl rfl ?_
  refine jp_getf (pc2 := 45) rfl rfl (hup_ne n7 e2) e12 ?_
  refine jp_putf (pc2 := 48) rfl rfl hup_eq (ls_lt (ls_lt (ls_lt (ls_lt (ls_lt (ln_lt l6 (by decide))))))) ⟨rfl, rfl⟩ ?_
  rw [hup_hup]
  exact ip_vret (st := []) rfl rfl q13
theorem c13_0 {r_0 : Nat} {a_1 : Nat} {tgt : Nat} (t1 : ipTab 1 69 0 5 #[39, 44, 49, 54, 59, 64] (nI a_1) = some tgt) (K : ip sc call 13 MC MS Q tgt [some (.ref r_0), some (.int (nI a_1))] [] h z c s) : ip sc call 13 MC MS Q 0 [some (.ref r_0), some (.int (nI a_1))] [] h z c s := by
  refine jp_load (pc2 := 1) (n := 1) rfl rfl rfl rfl ?_
  exact ip_tab rfl t1 K
theorem c13_40 {r_0 : Nat} {o_1 : Option Value} {fs1 : List Value} {v_fs1_0 : Nat} (e2 : h r_0 = some (.inr (2, fs1))) (e3 : fs1[0]? = some (.int (nI v_fs1_0))) (q4 : Q (some (.int (nI v_fs1_0))) h z)  : ip sc call 13 MC MS Q 40 [some (.ref r_0), o_1] [] h z c s := by
  refine jp_load (pc2 := 41) (n := 0) rfl rfl rfl rfl ?_
  refine jp_getf (pc2 := 44) rfl rfl e2 e3 ?_
  exact ip_iret (st := []) rfl rfl rfl q4
theorem c13_45 {r_0 : Nat} {o_1 : Option Value} {fs1 : List Value} {v_fs1_1 : Nat} (e2 : h r_0 = some (.inr (2, fs1))) (e3 : fs1[1]? = some (.int (nI v_fs1_1))) (q4 : Q (some (.int (nI v_fs1_1))) h z)  : ip sc call 13 MC MS Q 45 [some (.ref r_0), o_1] [] h z c s := by
  refine jp_load (pc2 := 46) (n := 0) rfl rfl rfl rfl ?_
  refine jp_getf (pc2 := 49) rfl rfl e2 e3 ?_
  exact ip_iret (st := []) rfl rfl rfl q4
theorem c13_50 {r_0 : Nat} {o_1 : Option Value} {fs1 : List Value} {v_fs1_2 : Nat} (e2 : h r_0 = some (.inr (2, fs1))) (e3 : fs1[2]? = some (.int (nI v_fs1_2))) (q4 : Q (some (.int (nI v_fs1_2))) h z)  : ip sc call 13 MC MS Q 50 [some (.ref r_0), o_1] [] h z c s := by
  refine jp_load (pc2 := 51) (n := 0) rfl rfl rfl rfl ?_
  refine jp_getf (pc2 := 54) rfl rfl e2 e3 ?_
  exact ip_iret (st := []) rfl rfl rfl q4
theorem c13_55 {r_0 : Nat} {o_1 : Option Value} {fs1 : List Value} {v_fs1_3 : Nat} (e2 : h r_0 = some (.inr (2, fs1))) (e3 : fs1[3]? = some (.int (nI v_fs1_3))) (q4 : Q (some (.int (nI v_fs1_3))) h z)  : ip sc call 13 MC MS Q 55 [some (.ref r_0), o_1] [] h z c s := by
  refine jp_load (pc2 := 56) (n := 0) rfl rfl rfl rfl ?_
  refine jp_getf (pc2 := 59) rfl rfl e2 e3 ?_
  exact ip_iret (st := []) rfl rfl rfl q4
theorem c13_60 {r_0 : Nat} {o_1 : Option Value} {fs1 : List Value} {v_fs1_4 : Nat} (e2 : h r_0 = some (.inr (2, fs1))) (e3 : fs1[4]? = some (.int (nI v_fs1_4))) (q4 : Q (some (.int (nI v_fs1_4))) h z)  : ip sc call 13 MC MS Q 60 [some (.ref r_0), o_1] [] h z c s := by
  refine jp_load (pc2 := 61) (n := 0) rfl rfl rfl rfl ?_
  refine jp_getf (pc2 := 64) rfl rfl e2 e3 ?_
  exact ip_iret (st := []) rfl rfl rfl q4
theorem c13_65 {r_0 : Nat} {o_1 : Option Value} {fs1 : List Value} {v_fs1_5 : Nat} (e2 : h r_0 = some (.inr (2, fs1))) (e3 : fs1[5]? = some (.int (nI v_fs1_5))) (q4 : Q (some (.int (nI v_fs1_5))) h z)  : ip sc call 13 MC MS Q 65 [some (.ref r_0), o_1] [] h z c s := by
  refine jp_load (pc2 := 66) (n := 0) rfl rfl rfl rfl ?_
  refine jp_getf (pc2 := 69) rfl rfl e2 e3 ?_
  exact ip_iret (st := []) rfl rfl rfl q4
theorem c13_70 {o_0 : Option Value} {o_1 : Option Value} (q1 : Q (some (.int ((-1)))) h z)  : ip sc call 13 MC MS Q 70 [o_0, o_1] [] h z c s := by
  refine jp_con (pc2 := 71) (v := (.int ((-1)))) rfl rfl rfl ?_
  exact ip_iret (st := []) rfl rfl rfl q1
-- c27_0 by hand: a making: raw
theorem c27_15 {r_0 : Nat} {a_1 : Nat} (c1 : a_1 < 2147483648) (K1 : 23 ≤ a_1 → ip sc call 27 MC MS Q 40 [some (.ref r_0), some (.int (nI a_1))] [] h z c s) (K2 : ¬ (23 ≤ a_1) → ip sc call 27 MC MS Q 21 [some (.ref r_0), some (.int (nI a_1))] [] h z c s) : ip sc call 27 MC MS Q 15 [some (.ref r_0), some (.int (nI a_1))] [] h z c s := by
  refine jp_load (pc2 := 16) (n := 1) rfl rfl rfl rfl ?_
  refine jp_con (pc2 := 18) (v := (.int (nI 23))) rfl rfl rfl ?_
  exact jp_icmp (pc2 := 21) rfl rfl (fun q => K1 ((nI_leI (by decide) c1).mp q)) (fun q => K2 (fun r => q ((nI_leI (by decide) c1).mpr r)))
theorem c27_33 {r_0 : Nat} {a_1 : Nat} {sr_0 : Nat} {sa_1 : Nat} {sr_2 : Nat} {n1 : Nat} {f2 : Nat → Option Nat} {fs6 : List Value} {g8 : Nat → Option Nat} (e3 : h sr_0 = some (.inl (4, n1, .inr (.inr (.inr (.inr f2)))))) (b4 : sa_1 < n1) (c5 : n1 < 2147483648) (e7 : h sr_2 = some (.inr (2, fs6))) (d9 : va_up f2 sa_1 (some sr_2) = g8) (K : ip sc call 27 MC MS Q 15 [some (.ref r_0), some (.int (nI (a_1 + 1)))] [] (hup h sr_0 (.inl (4, n1, .inr (.inr (.inr (.inr g8)))))) z c s) : ip sc call 27 MC MS Q 33 [some (.ref r_0), some (.int (nI a_1))] [(.ref sr_2), (.int (nI sa_1)), (.ref sr_0)] h z c s := by
  refine jp_aast (pc2 := 34) rfl rfl e3 (by decide) e7 (vp_in_nI b4 c5) ?_
  rw [(nI_clamp (Nat.lt_trans b4 c5))]
  rw [d9]
  refine jp_iinc (pc2 := 37) (n := 1) (v := nI (a_1 + 1)) rfl rfl rfl (nI_add _ 1) rfl ?_
  refine ip_goto rfl ?_
  exact K
theorem c27_40 {o_0 : Option Value} {o_1 : Option Value} (q1 : Q none h z)  : ip sc call 27 MC MS Q 40 [o_0, o_1] [] h z c s := by
  exact ip_vret (st := []) rfl rfl q1
theorem c28_0 {r_0 : Nat} {r_1 : Nat} {o_2 : Option Value} {fs1 : List Value} {v_fs1_1 : Nat} {fs4 : List Value} {v_fs1_2 : Nat} (e2 : h r_1 = some (.inr (4, fs1))) (e3 : fs1[1]? = some (.int (nI v_fs1_1))) (e5 : h r_0 = some (.inr (4, fs4))) (l6 : fs4.length = 3) (n7 : r_1 ≠ r_0) (e8 : fs1[2]? = some (.int (nI v_fs1_2))) (K : ip sc call 28 MC MS Q 18 [some (.ref r_0), some (.ref r_1), some (.int (nI 0))] [] (hup h r_0 (.inr (4, ((fs4.set 1 (.int (nI v_fs1_1))).set 2 (.int (nI v_fs1_2)))))) z c s) : ip sc call 28 MC MS Q 0 [some (.ref r_0), some (.ref r_1), o_2] [] h z c s := by
  refine jp_load (pc2 := 1) (n := 0) rfl rfl rfl rfl ?_
  refine jp_load (pc2 := 2) (n := 1) rfl rfl rfl rfl ?_
  refine jp_getf (pc2 := 5) rfl rfl e2 e3 ?_
  refine jp_putf (pc2 := 8) rfl rfl e5 (ln_lt l6 (by decide)) ⟨rfl, rfl⟩ ?_
  refine jp_load (pc2 := 9) (n := 0) rfl rfl rfl rfl ?_
  refine jp_load (pc2 := 10) (n := 1) rfl rfl rfl rfl ?_
  refine jp_getf (pc2 := 13) rfl rfl (hup_ne n7 e2) e8 ?_
  refine jp_putf (pc2 := 16) rfl rfl hup_eq (ls_lt (ln_lt l6 (by decide))) ⟨rfl, rfl⟩ ?_
  rw [hup_hup]
  refine jp_con (pc2 := 17) (v := (.int (nI 0))) rfl rfl rfl ?_
  refine jp_store (pc2 := 18) (n := 2) rfl rfl ⟨rfl, rfl⟩ rfl (Nat.le_of_ble_eq_true rfl) ?_
  exact K
theorem c28_18 {r_0 : Nat} {r_1 : Nat} {a_2 : Nat} {fs1 : List Value} {v_fs1_2 : Nat} (e2 : h r_0 = some (.inr (4, fs1))) (e3 : fs1[2]? = some (.int (nI v_fs1_2))) (c4 : a_2 < 2147483648) (c5 : v_fs1_2 < 2147483648) (K1 : v_fs1_2 ≤ a_2 → ip sc call 28 MC MS Q 47 [some (.ref r_0), some (.ref r_1), some (.int (nI a_2))] [] h z c s) (K2 : ¬ (v_fs1_2 ≤ a_2) → ip sc call 28 MC MS Q 26 [some (.ref r_0), some (.ref r_1), some (.int (nI a_2))] [] h z c s) : ip sc call 28 MC MS Q 18 [some (.ref r_0), some (.ref r_1), some (.int (nI a_2))] [] h z c s := by
  refine jp_load (pc2 := 19) (n := 2) rfl rfl rfl rfl ?_
  refine jp_load (pc2 := 20) (n := 0) rfl rfl rfl rfl ?_
  refine jp_getf (pc2 := 23) rfl rfl e2 e3 ?_
  exact jp_icmp (pc2 := 26) rfl rfl (fun q => K1 ((nI_leI c5 c4).mp q)) (fun q => K2 (fun r => q ((nI_leI c5 c4).mpr r)))
theorem c28_26 {r_0 : Nat} {r_1 : Nat} {a_2 : Nat} {fs1 : List Value} {q_fs1_0 : Nat} {n4 : Nat} {f5 : Nat → Option Nat} {q9 : Nat} {fs11 : List Value} {q_fs11_0 : Nat} {n14 : Nat} {f15 : Nat → Option Nat} {q19 : Nat} {fs21 : List Value} {P : ipQ} (e2 : h r_0 = some (.inr (4, fs1))) (e3 : fs1[0]? = some (.ref q_fs1_0)) (e6 : h q_fs1_0 = some (.inl (4, n4, .inr (.inr (.inr (.inr f5)))))) (b7 : a_2 < n4) (c8 : n4 < 2147483648) (e10 : f5 a_2 = some q9) (e12 : h r_1 = some (.inr (4, fs11))) (e13 : fs11[0]? = some (.ref q_fs11_0)) (e16 : h q_fs11_0 = some (.inl (4, n14, .inr (.inr (.inr (.inr f15)))))) (b17 : a_2 < n14) (c18 : n14 < 2147483648) (e20 : f15 a_2 = some q19) (e22 : h q9 = some (.inr (2, fs21))) (m23 : c ≤ MC) (m24 : s ≤ MS) (hc : call 12 [(.ref q9), (.ref q19)] h z 0 0 P) (K : ∀ (o : Option Value) (h2 : HP) (z2 : Nat), P o h2 z2 → ip sc call 28 MC MS Q 41 [some (.ref r_0), some (.ref r_1), some (.int (nI a_2))] (o.toList ++ []) h2 z2 c s) : ip sc call 28 MC MS Q 26 [some (.ref r_0), some (.ref r_1), some (.int (nI a_2))] [] h z c s := by
  refine jp_load (pc2 := 27) (n := 0) rfl rfl rfl rfl ?_
  refine jp_getf (pc2 := 30) rfl rfl e2 e3 ?_
  refine jp_load (pc2 := 31) (n := 2) rfl rfl rfl rfl ?_
  refine jp_aald (pc2 := 32) rfl rfl e6 (by decide) (vp_in_nI b7 c8) ((congrArg f5 (nI_clamp (Nat.lt_trans b7 c8))).trans e10) ?_
  refine jp_load (pc2 := 33) (n := 1) rfl rfl rfl rfl ?_
  refine jp_getf (pc2 := 36) rfl rfl e12 e13 ?_
  refine jp_load (pc2 := 37) (n := 2) rfl rfl rfl rfl ?_
  refine jp_aald (pc2 := 38) rfl rfl e16 (by decide) (vp_in_nI b17 c18) ((congrArg f15 (nI_clamp (Nat.lt_trans b17 c18))).trans e20) ?_
  exact jp_virt0 (pc2 := 41) (As := [(.ref q19)]) (rest := []) rfl rfl rfl (Nat.le_of_ble_eq_true rfl) e22 m23 m24 hc rfl K
theorem c28_41 {r_0 : Nat} {r_1 : Nat} {a_2 : Nat}  (K : ip sc call 28 MC MS Q 18 [some (.ref r_0), some (.ref r_1), some (.int (nI (a_2 + 1)))] [] h z c s) : ip sc call 28 MC MS Q 41 [some (.ref r_0), some (.ref r_1), some (.int (nI a_2))] [] h z c s := by
  refine jp_iinc (pc2 := 44) (n := 2) (v := nI (a_2 + 1)) rfl rfl rfl (nI_add _ 1) rfl ?_
  refine ip_goto rfl ?_
  exact K
theorem c28_47 {o_0 : Option Value} {o_1 : Option Value} {o_2 : Option Value} (q1 : Q none h z)  : ip sc call 28 MC MS Q 47 [o_0, o_1, o_2] [] h z c s := by
  exact ip_vret (st := []) rfl rfl q1
-- c29_0 by hand: a making: raw
theorem c30_0 {r_0 : Nat} {r_1 : Nat} {o_2 : Option Value} {o_3 : Option Value}  (K : ip sc call 30 MC MS Q 2 [some (.ref r_0), some (.ref r_1), some (.int (nI 0)), o_3] [] h z c s) : ip sc call 30 MC MS Q 0 [some (.ref r_0), some (.ref r_1), o_2, o_3] [] h z c s := by
  refine jp_con (pc2 := 1) (v := (.int (nI 0))) rfl rfl rfl ?_
  refine jp_store (pc2 := 2) (n := 2) rfl rfl ⟨rfl, rfl⟩ rfl (Nat.le_of_ble_eq_true rfl) ?_
  exact K
theorem c30_2 {r_0 : Nat} {r_1 : Nat} {a_2 : Nat} {o_3 : Option Value} {fs1 : List Value} {v_fs1_8 : Nat} (e2 : h r_1 = some (.inr (6, fs1))) (e3 : fs1[8]? = some (.int (nI v_fs1_8))) (c4 : a_2 < 2147483648) (c5 : v_fs1_8 < 2147483648) (K1 : v_fs1_8 ≤ a_2 → ip sc call 30 MC MS Q 23 [some (.ref r_0), some (.ref r_1), some (.int (nI a_2)), o_3] [] h z c s) (K2 : ¬ (v_fs1_8 ≤ a_2) → ip sc call 30 MC MS Q 10 [some (.ref r_0), some (.ref r_1), some (.int (nI a_2)), o_3] [] h z c s) : ip sc call 30 MC MS Q 2 [some (.ref r_0), some (.ref r_1), some (.int (nI a_2)), o_3] [] h z c s := by
  refine jp_load (pc2 := 3) (n := 2) rfl rfl rfl rfl ?_
  refine jp_load (pc2 := 4) (n := 1) rfl rfl rfl rfl ?_
  refine jp_getf (pc2 := 7) rfl rfl e2 e3 ?_
  exact jp_icmp (pc2 := 10) rfl rfl (fun q => K1 ((nI_leI c5 c4).mp q)) (fun q => K2 (fun r => q ((nI_leI c5 c4).mpr r)))
theorem c30_10 {r_0 : Nat} {r_1 : Nat} {a_2 : Nat} {o_3 : Option Value} {fs1 : List Value} {q_fs1_0 : Nat} {n4 : Nat} {f5 : Nat → Int32} {g9 : Nat → Int32} (e2 : h r_0 = some (.inr (5, fs1))) (e3 : fs1[0]? = some (.ref q_fs1_0)) (e6 : h q_fs1_0 = some (.inl (0, n4, .inl f5))) (b7 : a_2 < n4) (c8 : n4 < 2147483648) (d10 : upd f5 a_2 (nI 0) = g9) (K : ip sc call 30 MC MS Q 2 [some (.ref r_0), some (.ref r_1), some (.int (nI (a_2 + 1))), o_3] [] (hup h q_fs1_0 (.inl (0, n4, .inl g9))) z c s) : ip sc call 30 MC MS Q 10 [some (.ref r_0), some (.ref r_1), some (.int (nI a_2)), o_3] [] h z c s := by
  refine jp_load (pc2 := 11) (n := 0) rfl rfl rfl rfl ?_
  refine jp_getf (pc2 := 14) rfl rfl e2 e3 ?_
  refine jp_load (pc2 := 15) (n := 2) rfl rfl rfl rfl ?_
  refine jp_con (pc2 := 16) (v := (.int (nI 0))) rfl rfl rfl ?_
  refine jp_iast (pc2 := 17) rfl rfl e6 (vp_in_nI b7 c8) ?_
  rw [(nI_clamp (Nat.lt_trans b7 c8))]
  rw [d10]
  refine jp_iinc (pc2 := 20) (n := 2) (v := nI (a_2 + 1)) rfl rfl rfl (nI_add _ 1) rfl ?_
  refine ip_goto rfl ?_
  exact K
theorem c30_23 {r_0 : Nat} {r_1 : Nat} {o_2 : Option Value} {o_3 : Option Value}  (K : ip sc call 30 MC MS Q 25 [some (.ref r_0), some (.ref r_1), some (.int (nI 0)), o_3] [] h z c s) : ip sc call 30 MC MS Q 23 [some (.ref r_0), some (.ref r_1), o_2, o_3] [] h z c s := by
  refine jp_con (pc2 := 24) (v := (.int (nI 0))) rfl rfl rfl ?_
  refine jp_store (pc2 := 25) (n := 2) rfl rfl ⟨rfl, rfl⟩ rfl (Nat.le_of_ble_eq_true rfl) ?_
  exact K
theorem c30_25 {r_0 : Nat} {r_1 : Nat} {a_2 : Nat} {o_3 : Option Value} {fs1 : List Value} {v_fs1_7 : Nat} (e2 : h r_1 = some (.inr (6, fs1))) (e3 : fs1[7]? = some (.int (nI v_fs1_7))) (c4 : a_2 < 2147483648) (c5 : v_fs1_7 < 2147483648) (K1 : v_fs1_7 ≤ a_2 → ip sc call 30 MC MS Q 94 [some (.ref r_0), some (.ref r_1), some (.int (nI a_2)), o_3] [] h z c s) (K2 : ¬ (v_fs1_7 ≤ a_2) → ip sc call 30 MC MS Q 33 [some (.ref r_0), some (.ref r_1), some (.int (nI a_2)), o_3] [] h z c s) : ip sc call 30 MC MS Q 25 [some (.ref r_0), some (.ref r_1), some (.int (nI a_2)), o_3] [] h z c s := by
  refine jp_load (pc2 := 26) (n := 2) rfl rfl rfl rfl ?_
  refine jp_load (pc2 := 27) (n := 1) rfl rfl rfl rfl ?_
  refine jp_getf (pc2 := 30) rfl rfl e2 e3 ?_
  exact jp_icmp (pc2 := 33) rfl rfl (fun q => K1 ((nI_leI c5 c4).mp q)) (fun q => K2 (fun r => q ((nI_leI c5 c4).mpr r)))
theorem c30_33 {r_0 : Nat} {r_1 : Nat} {a_2 : Nat} {o_3 : Option Value} {fs1 : List Value} {q_fs1_3 : Nat} {n4 : Nat} {f5 : Nat → Int32} {g9 : Nat → Int32} {fs11 : List Value} {q_fs11_2 : Nat} {q_fs11_3 : Nat} {n16 : Nat} {f17 : Nat → Int32} {v22 : Nat} {n24 : Nat} {f25 : Nat → Int32} {v30 : Nat} (e2 : h r_0 = some (.inr (5, fs1))) (e3 : fs1[3]? = some (.ref q_fs1_3)) (e6 : h q_fs1_3 = some (.inl (0, n4, .inl f5))) (b7 : a_2 < n4) (c8 : n4 < 2147483648) (d10 : upd f5 a_2 ((nI 1) <<< ((nI a_2) &&& 31)) = g9) (e12 : h r_1 = some (.inr (6, fs11))) (n13 : r_1 ≠ q_fs1_3) (e14 : fs11[2]? = some (.ref q_fs11_2)) (e15 : fs11[3]? = some (.ref q_fs11_3)) (e18 : h q_fs11_3 = some (.inl (0, n16, .inl f17))) (n19 : q_fs11_3 ≠ q_fs1_3) (b20 : a_2 < n16) (c21 : n16 < 2147483648) (e23 : f17 a_2 = nI v22) (e26 : h q_fs11_2 = some (.inl (0, n24, .inl f25))) (n27 : q_fs11_2 ≠ q_fs1_3) (b28 : v22 < n24) (c29 : n24 < 2147483648) (e31 : f25 v22 = nI v30) (K : ip sc call 30 MC MS Q 54 [some (.ref r_0), some (.ref r_1), some (.int (nI a_2)), some (.int (nI v30))] [] (hup h q_fs1_3 (.inl (0, n4, .inl g9))) z c s) : ip sc call 30 MC MS Q 33 [some (.ref r_0), some (.ref r_1), some (.int (nI a_2)), o_3] [] h z c s := by
  refine jp_load (pc2 := 34) (n := 0) rfl rfl rfl rfl ?_
  refine jp_getf (pc2 := 37) rfl rfl e2 e3 ?_
  refine jp_load (pc2 := 38) (n := 2) rfl rfl rfl rfl ?_
  refine jp_con (pc2 := 39) (v := (.int (nI 1))) rfl rfl rfl ?_
  refine jp_load (pc2 := 40) (n := 2) rfl rfl rfl rfl ?_
  refine jp_bin (pc2 := 41) (v := (nI 1) <<< ((nI a_2) &&& 31)) rfl rfl rfl ?_
  refine jp_iast (pc2 := 42) rfl rfl e6 (vp_in_nI b7 c8) ?_
  rw [(nI_clamp (Nat.lt_trans b7 c8))]
  rw [d10]
  refine jp_load (pc2 := 43) (n := 1) rfl rfl rfl rfl ?_
  refine jp_getf (pc2 := 46) rfl rfl (hup_ne n13 e12) e14 ?_
  refine jp_load (pc2 := 47) (n := 1) rfl rfl rfl rfl ?_
  refine jp_getf (pc2 := 50) rfl rfl (hup_ne n13 e12) e15 ?_
  refine jp_load (pc2 := 51) (n := 2) rfl rfl rfl rfl ?_
  refine jp_iald (pc2 := 52) rfl rfl (hup_ne n19 e18) (vp_in_nI b20 c21) ?_
  rw [(nI_clamp (Nat.lt_trans b20 c21))]
  rw [e23]
  refine jp_iald (pc2 := 53) rfl rfl (hup_ne n27 e26) (vp_in_nI b28 c29) ?_
  rw [(nI_clamp (Nat.lt_trans b28 c29))]
  rw [e31]
  refine jp_store (pc2 := 54) (n := 3) rfl rfl ⟨rfl, rfl⟩ rfl (Nat.le_of_ble_eq_true rfl) ?_
  exact K
theorem c30_54 {r_0 : Nat} {r_1 : Nat} {a_2 : Nat} {a_3 : Nat} {fs1 : List Value} {q_fs1_2 : Nat} {q_fs1_3 : Nat} {n5 : Nat} {f6 : Nat → Int32} {v10 : Nat} {n12 : Nat} {f13 : Nat → Int32} {v17 : Nat} (e2 : h r_1 = some (.inr (6, fs1))) (e3 : fs1[2]? = some (.ref q_fs1_2)) (e4 : fs1[3]? = some (.ref q_fs1_3)) (e7 : h q_fs1_3 = some (.inl (0, n5, .inl f6))) (b8 : a_2 + 1 < n5) (c9 : n5 < 2147483648) (e11 : f6 (a_2 + 1) = nI v10) (e14 : h q_fs1_2 = some (.inl (0, n12, .inl f13))) (b15 : v10 < n12) (c16 : n12 < 2147483648) (e18 : f13 v10 = nI v17) (c19 : a_3 < 2147483648) (c20 : v17 < 2147483648) (K1 : v17 ≤ a_3 → ip sc call 30 MC MS Q 88 [some (.ref r_0), some (.ref r_1), some (.int (nI a_2)), some (.int (nI a_3))] [] h z c s) (K2 : ¬ (v17 ≤ a_3) → ip sc call 30 MC MS Q 71 [some (.ref r_0), some (.ref r_1), some (.int (nI a_2)), some (.int (nI a_3))] [] h z c s) : ip sc call 30 MC MS Q 54 [some (.ref r_0), some (.ref r_1), some (.int (nI a_2)), some (.int (nI a_3))] [] h z c s := by
  refine jp_load (pc2 := 55) (n := 3) rfl rfl rfl rfl ?_
  refine jp_load (pc2 := 56) (n := 1) rfl rfl rfl rfl ?_
  refine jp_getf (pc2 := 59) rfl rfl e2 e3 ?_
  refine jp_load (pc2 := 60) (n := 1) rfl rfl rfl rfl ?_
  refine jp_getf (pc2 := 63) rfl rfl e2 e4 ?_
  refine jp_load (pc2 := 64) (n := 2) rfl rfl rfl rfl ?_
  refine jp_con (pc2 := 65) (v := (.int (nI 1))) rfl rfl rfl ?_
  refine jp_bin (pc2 := 66) (v := nI (a_2 + 1)) rfl rfl (congrArg some (nI_add _ _)) ?_
  refine jp_iald (pc2 := 67) rfl rfl e7 (vp_in_nI b8 c9) ?_
  rw [(nI_clamp (Nat.lt_trans b8 c9))]
  rw [e11]
  refine jp_iald (pc2 := 68) rfl rfl e14 (vp_in_nI b15 c16) ?_
  rw [(nI_clamp (Nat.lt_trans b15 c16))]
  rw [e18]
  exact jp_icmp (pc2 := 71) rfl rfl (fun q => K1 ((nI_leI c20 c19).mp q)) (fun q => K2 (fun r => q ((nI_leI c20 c19).mpr r)))
theorem c30_71 {r_0 : Nat} {r_1 : Nat} {a_2 : Nat} {a_3 : Nat} {fs1 : List Value} {q_fs1_1 : Nat} {n4 : Nat} {f5 : Nat → Int32} {v9 : Nat} {fs11 : List Value} {P : ipQ} (e2 : h r_1 = some (.inr (6, fs1))) (e3 : fs1[1]? = some (.ref q_fs1_1)) (e6 : h q_fs1_1 = some (.inl (0, n4, .inl f5))) (b7 : a_3 < n4) (c8 : n4 < 2147483648) (e10 : f5 a_3 = nI v9) (e12 : h r_0 = some (.inr (5, fs11))) (m13 : c ≤ MC) (m14 : s ≤ MS) (hc : call 31 [(.ref r_0), (.int (nI v9)), (.int (nI a_2))] h z 0 0 P) (K : ∀ (o : Option Value) (h2 : HP) (z2 : Nat), P o h2 z2 → ip sc call 30 MC MS Q 82 [some (.ref r_0), some (.ref r_1), some (.int (nI a_2)), some (.int (nI a_3))] (o.toList ++ []) h2 z2 c s) : ip sc call 30 MC MS Q 71 [some (.ref r_0), some (.ref r_1), some (.int (nI a_2)), some (.int (nI a_3))] [] h z c s := by
  refine jp_load (pc2 := 72) (n := 0) rfl rfl rfl rfl ?_
  refine jp_load (pc2 := 73) (n := 1) rfl rfl rfl rfl ?_
  refine jp_getf (pc2 := 76) rfl rfl e2 e3 ?_
  refine jp_load (pc2 := 77) (n := 3) rfl rfl rfl rfl ?_
  refine jp_iald (pc2 := 78) rfl rfl e6 (vp_in_nI b7 c8) ?_
  rw [(nI_clamp (Nat.lt_trans b7 c8))]
  rw [e10]
  refine jp_load (pc2 := 79) (n := 2) rfl rfl rfl rfl ?_
  exact jp_virt0 (pc2 := 82) (As := [(.int (nI v9)), (.int (nI a_2))]) (rest := []) rfl rfl rfl (Nat.le_of_ble_eq_true rfl) e12 m13 m14 hc rfl K
theorem c30_82 {r_0 : Nat} {r_1 : Nat} {a_2 : Nat} {a_3 : Nat}  (K : ip sc call 30 MC MS Q 54 [some (.ref r_0), some (.ref r_1), some (.int (nI a_2)), some (.int (nI (a_3 + 1)))] [] h z c s) : ip sc call 30 MC MS Q 82 [some (.ref r_0), some (.ref r_1), some (.int (nI a_2)), some (.int (nI a_3))] [] h z c s := by
  refine jp_iinc (pc2 := 85) (n := 3) (v := nI (a_3 + 1)) rfl rfl rfl (nI_add _ 1) rfl ?_
  refine ip_goto rfl ?_
  exact K
theorem c30_88 {r_0 : Nat} {r_1 : Nat} {a_2 : Nat} {o_3 : Option Value}  (K : ip sc call 30 MC MS Q 25 [some (.ref r_0), some (.ref r_1), some (.int (nI (a_2 + 1))), o_3] [] h z c s) : ip sc call 30 MC MS Q 88 [some (.ref r_0), some (.ref r_1), some (.int (nI a_2)), o_3] [] h z c s := by
  refine jp_iinc (pc2 := 91) (n := 2) (v := nI (a_2 + 1)) rfl rfl rfl (nI_add _ 1) rfl ?_
  refine ip_goto rfl ?_
  exact K
theorem c30_94 {r_0 : Nat} {r_1 : Nat} {o_2 : Option Value} {o_3 : Option Value} {fs1 : List Value} {v_fs1_7 : Nat} {fs4 : List Value} (e2 : h r_1 = some (.inr (6, fs1))) (e3 : fs1[7]? = some (.int (nI v_fs1_7))) (e5 : h r_0 = some (.inr (5, fs4))) (l6 : fs4.length = 5) (q7 : Q none (hup h r_0 (.inr (5, (fs4.set 4 (.int (((nI 1) <<< ((nI v_fs1_7) &&& 31)) - (nI 1))))))) z)  : ip sc call 30 MC MS Q 94 [some (.ref r_0), some (.ref r_1), o_2, o_3] [] h z c s := by
  refine jp_load (pc2 := 95) (n := 0) rfl rfl rfl rfl ?_
  refine jp_con (pc2 := 96) (v := (.int (nI 1))) rfl rfl rfl ?_
  refine jp_load (pc2 := 97) (n := 1) rfl rfl rfl rfl ?_
  refine jp_getf (pc2 := 100) rfl rfl e2 e3 ?_
  refine jp_bin (pc2 := 101) (v := (nI 1) <<< ((nI v_fs1_7) &&& 31)) rfl rfl rfl ?_
  refine jp_con (pc2 := 102) (v := (.int (nI 1))) rfl rfl rfl ?_
  refine jp_bin (pc2 := 103) (v := ((nI 1) <<< ((nI v_fs1_7) &&& 31)) - (nI 1)) rfl rfl rfl ?_
  refine jp_putf (pc2 := 106) rfl rfl e5 (ln_lt l6 (by decide)) ⟨rfl, rfl⟩ ?_
  exact ip_vret (st := []) rfl rfl q7
theorem c31_0 {r_0 : Nat} {a_1 : Nat} {a_2 : Nat} {fs1 : List Value} {q_fs1_0 : Nat} {n4 : Nat} {f5 : Nat → Int32} {v9 : Nat} {g11 : Nat → Int32} {q_fs1_2 : Nat} {n15 : Nat} {f16 : Nat → Int32} {g21 : Nat → Int32} {v25 : Nat} (e2 : h r_0 = some (.inr (5, fs1))) (e3 : fs1[0]? = some (.ref q_fs1_0)) (e6 : h q_fs1_0 = some (.inl (0, n4, .inl f5))) (b7 : a_1 < n4) (c8 : n4 < 2147483648) (e10 : f5 a_1 = nI v9) (d12 : upd f5 a_1 (nI (v9 + 1)) = g11) (n13 : r_0 ≠ q_fs1_0) (e14 : fs1[2]? = some (.ref q_fs1_2)) (e17 : h q_fs1_2 = some (.inl (0, n15, .inl f16))) (n18 : q_fs1_2 ≠ q_fs1_0) (b19 : a_1 < n15) (c20 : n15 < 2147483648) (d22 : upd f16 a_1 (nI a_2) = g21) (n23 : r_0 ≠ q_fs1_2) (n24 : q_fs1_0 ≠ q_fs1_2) (e26 : g11 a_1 = nI v25) (c27 : v25 < 2147483648) (K1 : ¬ v25 = 1 → ip sc call 31 MC MS Q 37 [some (.ref r_0), some (.int (nI a_1)), some (.int (nI a_2))] [] (hup (hup h q_fs1_0 (.inl (0, n4, .inl g11))) q_fs1_2 (.inl (0, n15, .inl g21))) z c s) (K2 : ¬ (¬ v25 = 1) → ip sc call 31 MC MS Q 27 [some (.ref r_0), some (.int (nI a_1)), some (.int (nI a_2))] [] (hup (hup h q_fs1_0 (.inl (0, n4, .inl g11))) q_fs1_2 (.inl (0, n15, .inl g21))) z c s) : ip sc call 31 MC MS Q 0 [some (.ref r_0), some (.int (nI a_1)), some (.int (nI a_2))] [] h z c s := by
  refine jp_load (pc2 := 1) (n := 0) rfl rfl rfl rfl ?_
  refine jp_getf (pc2 := 4) rfl rfl e2 e3 ?_
  refine jp_load (pc2 := 5) (n := 1) rfl rfl rfl rfl ?_
  refine jp_dup2 (pc2 := 6) rfl rfl rfl rfl ?_
  refine jp_iald (pc2 := 7) rfl rfl e6 (vp_in_nI b7 c8) ?_
  rw [(nI_clamp (Nat.lt_trans b7 c8))]
  rw [e10]
  refine jp_con (pc2 := 8) (v := (.int (nI 1))) rfl rfl rfl ?_
  refine jp_bin (pc2 := 9) (v := nI (v9 + 1)) rfl rfl (congrArg some (nI_add _ _)) ?_
  refine jp_iast (pc2 := 10) rfl rfl e6 (vp_in_nI b7 c8) ?_
  rw [(nI_clamp (Nat.lt_trans b7 c8))]
  rw [d12]
  refine jp_load (pc2 := 11) (n := 0) rfl rfl rfl rfl ?_
  refine jp_getf (pc2 := 14) rfl rfl (hup_ne n13 e2) e14 ?_
  refine jp_load (pc2 := 15) (n := 1) rfl rfl rfl rfl ?_
  refine jp_load (pc2 := 16) (n := 2) rfl rfl rfl rfl ?_
  refine jp_iast (pc2 := 17) rfl rfl (hup_ne n18 e17) (vp_in_nI b19 c20) ?_
  rw [(nI_clamp (Nat.lt_trans b19 c20))]
  rw [d22]
  refine jp_load (pc2 := 18) (n := 0) rfl rfl rfl rfl ?_
  refine jp_getf (pc2 := 21) rfl rfl (hup_ne n23 (hup_ne n13 e2)) e3 ?_
  refine jp_load (pc2 := 22) (n := 1) rfl rfl rfl rfl ?_
  refine jp_iald (pc2 := 23) rfl rfl (hup_ne n24 hup_eq) (vp_in_nI b7 c8) ?_
  rw [(nI_clamp (Nat.lt_trans b7 c8))]
  rw [e26]
  refine jp_con (pc2 := 24) (v := (.int (nI 1))) rfl rfl rfl ?_
  exact jp_icmp (pc2 := 27) rfl rfl (fun q => K1 ((not_congr (nI_eq c27 (by decide))).mp q)) (fun q => K2 (fun r => q ((not_congr (nI_eq c27 (by decide))).mpr r)))
theorem c31_27 {r_0 : Nat} {a_1 : Nat} {a_2 : Nat} {fs1 : List Value} {q_fs1_1 : Nat} {n4 : Nat} {f5 : Nat → Int32} {g9 : Nat → Int32} (e2 : h r_0 = some (.inr (5, fs1))) (e3 : fs1[1]? = some (.ref q_fs1_1)) (e6 : h q_fs1_1 = some (.inl (0, n4, .inl f5))) (b7 : a_1 < n4) (c8 : n4 < 2147483648) (d10 : upd f5 a_1 (nI a_2) = g9) (K : ip sc call 31 MC MS Q 71 [some (.ref r_0), some (.int (nI a_1)), some (.int (nI a_2))] [] (hup h q_fs1_1 (.inl (0, n4, .inl g9))) z c s) : ip sc call 31 MC MS Q 27 [some (.ref r_0), some (.int (nI a_1)), some (.int (nI a_2))] [] h z c s := by
  refine jp_load (pc2 := 28) (n := 0) rfl rfl rfl rfl ?_
  refine jp_getf (pc2 := 31) rfl rfl e2 e3 ?_
  refine jp_load (pc2 := 32) (n := 1) rfl rfl rfl rfl ?_
  refine jp_load (pc2 := 33) (n := 2) rfl rfl rfl rfl ?_
  refine jp_iast (pc2 := 34) rfl rfl e6 (vp_in_nI b7 c8) ?_
  rw [(nI_clamp (Nat.lt_trans b7 c8))]
  rw [d10]
  refine ip_goto rfl ?_
  exact K
theorem c31_37 {r_0 : Nat} {a_1 : Nat} {a_2 : Nat} {fs1 : List Value} {q_fs1_3 : Nat} {n4 : Nat} {f5 : Nat → Int32} {v9 : Nat} {q_fs1_1 : Nat} {n12 : Nat} {f13 : Nat → Int32} {v17 : Nat} {g19 : Nat → Int32} {v24 : Nat} {g26 : Nat → Int32} (e2 : h r_0 = some (.inr (5, fs1))) (e3 : fs1[3]? = some (.ref q_fs1_3)) (e6 : h q_fs1_3 = some (.inl (0, n4, .inl f5))) (b7 : a_2 < n4) (c8 : n4 < 2147483648) (e10 : f5 a_2 = nI v9) (e11 : fs1[1]? = some (.ref q_fs1_1)) (e14 : h q_fs1_1 = some (.inl (0, n12, .inl f13))) (b15 : a_1 < n12) (c16 : n12 < 2147483648) (e18 : f13 a_1 = nI v17) (d20 : upd f5 a_2 ((nI v9) ||| ((nI 1) <<< ((nI v17) &&& 31))) = g19) (n21 : r_0 ≠ q_fs1_3) (n22 : q_fs1_1 ≠ q_fs1_3) (b23 : v17 < n4) (e25 : g19 v17 = nI v24) (d27 : upd g19 v17 ((nI v24) ||| ((nI 1) <<< ((nI a_2) &&& 31))) = g26) (K : ip sc call 31 MC MS Q 71 [some (.ref r_0), some (.int (nI a_1)), some (.int (nI a_2))] [] (hup h q_fs1_3 (.inl (0, n4, .inl g26))) z c s) : ip sc call 31 MC MS Q 37 [some (.ref r_0), some (.int (nI a_1)), some (.int (nI a_2))] [] h z c s := by
  refine jp_load (pc2 := 38) (n := 0) rfl rfl rfl rfl ?_
  refine jp_getf (pc2 := 41) rfl rfl e2 e3 ?_
  refine jp_load (pc2 := 42) (n := 2) rfl rfl rfl rfl ?_
  refine jp_dup2 (pc2 := 43) rfl rfl rfl rfl ?_
  refine jp_iald (pc2 := 44) rfl rfl e6 (vp_in_nI b7 c8) ?_
  rw [(nI_clamp (Nat.lt_trans b7 c8))]
  rw [e10]
  refine jp_con (pc2 := 45) (v := (.int (nI 1))) rfl rfl rfl ?_
  refine jp_load (pc2 := 46) (n := 0) rfl rfl rfl rfl ?_
  refine jp_getf (pc2 := 49) rfl rfl e2 e11 ?_
  refine jp_load (pc2 := 50) (n := 1) rfl rfl rfl rfl ?_
  refine jp_iald (pc2 := 51) rfl rfl e14 (vp_in_nI b15 c16) ?_
  rw [(nI_clamp (Nat.lt_trans b15 c16))]
  rw [e18]
  refine jp_bin (pc2 := 52) (v := (nI 1) <<< ((nI v17) &&& 31)) rfl rfl rfl ?_
  refine jp_bin (pc2 := 53) (v := (nI v9) ||| ((nI 1) <<< ((nI v17) &&& 31))) rfl rfl rfl ?_
  refine jp_iast (pc2 := 54) rfl rfl e6 (vp_in_nI b7 c8) ?_
  rw [(nI_clamp (Nat.lt_trans b7 c8))]
  rw [d20]
  refine jp_load (pc2 := 55) (n := 0) rfl rfl rfl rfl ?_
  refine jp_getf (pc2 := 58) rfl rfl (hup_ne n21 e2) e3 ?_
  refine jp_load (pc2 := 59) (n := 0) rfl rfl rfl rfl ?_
  refine jp_getf (pc2 := 62) rfl rfl (hup_ne n21 e2) e11 ?_
  refine jp_load (pc2 := 63) (n := 1) rfl rfl rfl rfl ?_
  refine jp_iald (pc2 := 64) rfl rfl (hup_ne n22 e14) (vp_in_nI b15 c16) ?_
  rw [(nI_clamp (Nat.lt_trans b15 c16))]
  rw [e18]
  refine jp_dup2 (pc2 := 65) rfl rfl rfl rfl ?_
  refine jp_iald (pc2 := 66) rfl rfl hup_eq (vp_in_nI b23 c8) ?_
  rw [(nI_clamp (Nat.lt_trans b23 c8))]
  rw [e25]
  refine jp_con (pc2 := 67) (v := (.int (nI 1))) rfl rfl rfl ?_
  refine jp_load (pc2 := 68) (n := 2) rfl rfl rfl rfl ?_
  refine jp_bin (pc2 := 69) (v := (nI 1) <<< ((nI a_2) &&& 31)) rfl rfl rfl ?_
  refine jp_bin (pc2 := 70) (v := (nI v24) ||| ((nI 1) <<< ((nI a_2) &&& 31))) rfl rfl rfl ?_
  refine jp_iast (pc2 := 71) rfl rfl hup_eq (vp_in_nI b23 c8) ?_
  rw [(nI_clamp (Nat.lt_trans b23 c8))]
  rw [d27]
  rw [hup_hup]
  exact K
theorem c31_71 {o_0 : Option Value} {o_1 : Option Value} {o_2 : Option Value} (q1 : Q none h z)  : ip sc call 31 MC MS Q 71 [o_0, o_1, o_2] [] h z c s := by
  exact ip_vret (st := []) rfl rfl q1
theorem c32_0 {r_0 : Nat} {a_1 : Nat} {fs1 : List Value} {q_fs1_0 : Nat} {n4 : Nat} {f5 : Nat → Int32} {v9 : Nat} (e2 : h r_0 = some (.inr (5, fs1))) (e3 : fs1[0]? = some (.ref q_fs1_0)) (e6 : h q_fs1_0 = some (.inl (0, n4, .inl f5))) (b7 : a_1 < n4) (c8 : n4 < 2147483648) (e10 : f5 a_1 = nI v9) (c11 : v9 < 2147483648) (K1 : ¬ v9 = 2 → ip sc call 32 MC MS Q 29 [some (.ref r_0), some (.int (nI a_1))] [] h z c s) (K2 : ¬ (¬ v9 = 2) → ip sc call 32 MC MS Q 10 [some (.ref r_0), some (.int (nI a_1))] [] h z c s) : ip sc call 32 MC MS Q 0 [some (.ref r_0), some (.int (nI a_1))] [] h z c s := by
  refine jp_load (pc2 := 1) (n := 0) rfl rfl rfl rfl ?_
  refine jp_getf (pc2 := 4) rfl rfl e2 e3 ?_
  refine jp_load (pc2 := 5) (n := 1) rfl rfl rfl rfl ?_
  refine jp_iald (pc2 := 6) rfl rfl e6 (vp_in_nI b7 c8) ?_
  rw [(nI_clamp (Nat.lt_trans b7 c8))]
  rw [e10]
  refine jp_con (pc2 := 7) (v := (.int (nI 2))) rfl rfl rfl ?_
  exact jp_icmp (pc2 := 10) rfl rfl (fun q => K1 ((not_congr (nI_eq c11 (by decide))).mp q)) (fun q => K2 (fun r => q ((not_congr (nI_eq c11 (by decide))).mpr r)))
theorem c32_10 {r_0 : Nat} {a_1 : Nat} {fs1 : List Value} {q_fs1_1 : Nat} {n4 : Nat} {f5 : Nat → Int32} {v9 : Nat} {q_fs1_2 : Nat} {n12 : Nat} {f13 : Nat → Int32} {v17 : Nat} (e2 : h r_0 = some (.inr (5, fs1))) (e3 : fs1[1]? = some (.ref q_fs1_1)) (e6 : h q_fs1_1 = some (.inl (0, n4, .inl f5))) (b7 : a_1 < n4) (c8 : n4 < 2147483648) (e10 : f5 a_1 = nI v9) (e11 : fs1[2]? = some (.ref q_fs1_2)) (e14 : h q_fs1_2 = some (.inl (0, n12, .inl f13))) (b15 : a_1 < n12) (c16 : n12 < 2147483648) (e18 : f13 a_1 = nI v17) (c19 : v9 < 2147483648) (c20 : v17 < 2147483648) (K1 : ¬ v9 = v17 → ip sc call 32 MC MS Q 29 [some (.ref r_0), some (.int (nI a_1))] [] h z c s) (K2 : ¬ (¬ v9 = v17) → ip sc call 32 MC MS Q 25 [some (.ref r_0), some (.int (nI a_1))] [] h z c s) : ip sc call 32 MC MS Q 10 [some (.ref r_0), some (.int (nI a_1))] [] h z c s := by
  refine jp_load (pc2 := 11) (n := 0) rfl rfl rfl rfl ?_
  refine jp_getf (pc2 := 14) rfl rfl e2 e3 ?_
  refine jp_load (pc2 := 15) (n := 1) rfl rfl rfl rfl ?_
  refine jp_iald (pc2 := 16) rfl rfl e6 (vp_in_nI b7 c8) ?_
  rw [(nI_clamp (Nat.lt_trans b7 c8))]
  rw [e10]
  refine jp_load (pc2 := 17) (n := 0) rfl rfl rfl rfl ?_
  refine jp_getf (pc2 := 20) rfl rfl e2 e11 ?_
  refine jp_load (pc2 := 21) (n := 1) rfl rfl rfl rfl ?_
  refine jp_iald (pc2 := 22) rfl rfl e14 (vp_in_nI b15 c16) ?_
  rw [(nI_clamp (Nat.lt_trans b15 c16))]
  rw [e18]
  exact jp_icmp (pc2 := 25) rfl rfl (fun q => K1 ((not_congr (nI_eq c19 c20)).mp q)) (fun q => K2 (fun r => q ((not_congr (nI_eq c19 c20)).mpr r)))
theorem c32_25 {o_0 : Option Value} {o_1 : Option Value}  (K : ip sc call 32 MC MS Q 30 [o_0, o_1] [(.int (nI 1))] h z c s) : ip sc call 32 MC MS Q 25 [o_0, o_1] [] h z c s := by
  refine jp_con (pc2 := 26) (v := (.int (nI 1))) rfl rfl rfl ?_
  refine ip_goto rfl ?_
  exact K
theorem c32_29 {o_0 : Option Value} {o_1 : Option Value}  (K : ip sc call 32 MC MS Q 30 [o_0, o_1] [(.int (nI 0))] h z c s) : ip sc call 32 MC MS Q 29 [o_0, o_1] [] h z c s := by
  refine jp_con (pc2 := 30) (v := (.int (nI 0))) rfl rfl rfl ?_
  exact K
theorem c32_30 {o_0 : Option Value} {o_1 : Option Value} {sa_0 : Nat} (t1 : narrow .boolean (.int (nI sa_0)) = .int (nI sa_0)) (q2 : Q (some (.int (nI sa_0))) h z)  : ip sc call 32 MC MS Q 30 [o_0, o_1] [(.int (nI sa_0))] h z c s := by
  exact ip_iret (st := []) rfl rfl t1 q2
theorem c33_0 {r_0 : Nat} {a_1 : Nat} {o_2 : Option Value} {o_3 : Option Value} {o_4 : Option Value} {o_5 : Option Value} {fs1 : List Value} {v_fs1_4 : Nat} (e2 : h r_0 = some (.inr (5, fs1))) (e3 : fs1[4]? = some (.int (nI v_fs1_4))) (K : ip sc call 33 MC MS Q 13 [some (.ref r_0), some (.int (nI a_1)), some (.int ((nI v_fs1_4) &&& (-(nI v_fs1_4)))), some (.int (nI 0)), o_4, o_5] [] h z c s) : ip sc call 33 MC MS Q 0 [some (.ref r_0), some (.int (nI a_1)), o_2, o_3, o_4, o_5] [] h z c s := by
  refine jp_load (pc2 := 1) (n := 0) rfl rfl rfl rfl ?_
  refine jp_getf (pc2 := 4) rfl rfl e2 e3 ?_
  refine jp_load (pc2 := 5) (n := 0) rfl rfl rfl rfl ?_
  refine jp_getf (pc2 := 8) rfl rfl e2 e3 ?_
  refine jp_cv (pc2 := 9) (v := (.int (-(nI v_fs1_4)))) rfl rfl rfl ?_
  refine jp_bin (pc2 := 10) (v := (nI v_fs1_4) &&& (-(nI v_fs1_4))) rfl rfl rfl ?_
  refine jp_store (pc2 := 11) (n := 2) rfl rfl ⟨rfl, rfl⟩ rfl (Nat.le_of_ble_eq_true rfl) ?_
  refine jp_con (pc2 := 12) (v := (.int (nI 0))) rfl rfl rfl ?_
  refine jp_store (pc2 := 13) (n := 3) rfl rfl ⟨rfl, rfl⟩ rfl (Nat.le_of_ble_eq_true rfl) ?_
  exact K
theorem c33_13 {r_0 : Nat} {a_1 : Nat} {a_2 : Nat} {a_3 : Nat} {o_4 : Option Value} {o_5 : Option Value} (c1 : a_3 < 2147483648) (c2 : a_1 < 2147483648) (K1 : a_1 ≤ a_3 → ip sc call 33 MC MS Q 71 [some (.ref r_0), some (.int (nI a_1)), some (.int (nI a_2)), some (.int (nI a_3)), o_4, o_5] [] h z c s) (K2 : ¬ (a_1 ≤ a_3) → ip sc call 33 MC MS Q 18 [some (.ref r_0), some (.int (nI a_1)), some (.int (nI a_2)), some (.int (nI a_3)), o_4, o_5] [] h z c s) : ip sc call 33 MC MS Q 13 [some (.ref r_0), some (.int (nI a_1)), some (.int (nI a_2)), some (.int (nI a_3)), o_4, o_5] [] h z c s := by
  refine jp_load (pc2 := 14) (n := 3) rfl rfl rfl rfl ?_
  refine jp_load (pc2 := 15) (n := 1) rfl rfl rfl rfl ?_
  exact jp_icmp (pc2 := 18) rfl rfl (fun q => K1 ((nI_leI c2 c1).mp q)) (fun q => K2 (fun r => q ((nI_leI c2 c1).mpr r)))
theorem c33_18 {r_0 : Nat} {a_1 : Nat} {a_2 : Nat} {a_3 : Nat} {o_4 : Option Value} {o_5 : Option Value}  (K : ip sc call 33 MC MS Q 24 [some (.ref r_0), some (.int (nI a_1)), some (.int (nI a_2)), some (.int (nI a_3)), some (.int (nI a_2)), some (.int (nI 0))] [] h z c s) : ip sc call 33 MC MS Q 18 [some (.ref r_0), some (.int (nI a_1)), some (.int (nI a_2)), some (.int (nI a_3)), o_4, o_5] [] h z c s := by
  refine jp_load (pc2 := 19) (n := 2) rfl rfl rfl rfl ?_
  refine jp_store (pc2 := 21) (n := 4) rfl rfl ⟨rfl, rfl⟩ rfl (Nat.le_of_ble_eq_true rfl) ?_
  refine jp_con (pc2 := 22) (v := (.int (nI 0))) rfl rfl rfl ?_
  refine jp_store (pc2 := 24) (n := 5) rfl rfl ⟨rfl, rfl⟩ rfl (Nat.le_of_ble_eq_true rfl) ?_
  exact K
theorem c33_24 {r_0 : Nat} {a_1 : Nat} {a_2 : Nat} {a_3 : Nat} {a_4 : Nat} {a_5 : Nat} (c1 : a_5 < 2147483648) (c2 : a_1 < 2147483648) (K1 : a_1 ≤ a_5 → ip sc call 33 MC MS Q 56 [some (.ref r_0), some (.int (nI a_1)), some (.int (nI a_2)), some (.int (nI a_3)), some (.int (nI a_4)), some (.int (nI a_5))] [] h z c s) (K2 : ¬ (a_1 ≤ a_5) → ip sc call 33 MC MS Q 30 [some (.ref r_0), some (.int (nI a_1)), some (.int (nI a_2)), some (.int (nI a_3)), some (.int (nI a_4)), some (.int (nI a_5))] [] h z c s) : ip sc call 33 MC MS Q 24 [some (.ref r_0), some (.int (nI a_1)), some (.int (nI a_2)), some (.int (nI a_3)), some (.int (nI a_4)), some (.int (nI a_5))] [] h z c s := by
  refine jp_load (pc2 := 26) (n := 5) rfl rfl rfl rfl ?_
  refine jp_load (pc2 := 27) (n := 1) rfl rfl rfl rfl ?_
  exact jp_icmp (pc2 := 30) rfl rfl (fun q => K1 ((nI_leI c2 c1).mp q)) (fun q => K2 (fun r => q ((nI_leI c2 c1).mpr r)))
theorem c33_30 {r_0 : Nat} {a_1 : Nat} {a_2 : Nat} {a_3 : Nat} {a_4 : Nat} {a_5 : Nat}  (K1 : ¬ (((nI a_2) >>> ((nI a_5) &&& 31)) &&& (nI 1)) = (nI 1) → ip sc call 33 MC MS Q 50 [some (.ref r_0), some (.int (nI a_1)), some (.int (nI a_2)), some (.int (nI a_3)), some (.int (nI a_4)), some (.int (nI a_5))] [] h z c s) (K2 : ¬ (¬ (((nI a_2) >>> ((nI a_5) &&& 31)) &&& (nI 1)) = (nI 1)) → ip sc call 33 MC MS Q 40 [some (.ref r_0), some (.int (nI a_1)), some (.int (nI a_2)), some (.int (nI a_3)), some (.int (nI a_4)), some (.int (nI a_5))] [] h z c s) : ip sc call 33 MC MS Q 30 [some (.ref r_0), some (.int (nI a_1)), some (.int (nI a_2)), some (.int (nI a_3)), some (.int (nI a_4)), some (.int (nI a_5))] [] h z c s := by
  refine jp_load (pc2 := 31) (n := 2) rfl rfl rfl rfl ?_
  refine jp_load (pc2 := 33) (n := 5) rfl rfl rfl rfl ?_
  refine jp_bin (pc2 := 34) (v := (nI a_2) >>> ((nI a_5) &&& 31)) rfl rfl rfl ?_
  refine jp_con (pc2 := 35) (v := (.int (nI 1))) rfl rfl rfl ?_
  refine jp_bin (pc2 := 36) (v := ((nI a_2) >>> ((nI a_5) &&& 31)) &&& (nI 1)) rfl rfl rfl ?_
  refine jp_con (pc2 := 37) (v := (.int (nI 1))) rfl rfl rfl ?_
  exact jp_icmp (pc2 := 40) rfl rfl K1 K2
theorem c33_40 {r_0 : Nat} {a_1 : Nat} {a_2 : Nat} {a_3 : Nat} {a_4 : Nat} {a_5 : Nat} {fs1 : List Value} {q_fs1_3 : Nat} {n4 : Nat} {f5 : Nat → Int32} {v9 : Nat} (e2 : h r_0 = some (.inr (5, fs1))) (e3 : fs1[3]? = some (.ref q_fs1_3)) (e6 : h q_fs1_3 = some (.inl (0, n4, .inl f5))) (b7 : a_5 < n4) (c8 : n4 < 2147483648) (e10 : f5 a_5 = nI v9) (K : ip sc call 33 MC MS Q 50 [some (.ref r_0), some (.int (nI a_1)), some (.int ((nI a_2) ||| (nI v9))), some (.int (nI a_3)), some (.int (nI a_4)), some (.int (nI a_5))] [] h z c s) : ip sc call 33 MC MS Q 40 [some (.ref r_0), some (.int (nI a_1)), some (.int (nI a_2)), some (.int (nI a_3)), some (.int (nI a_4)), some (.int (nI a_5))] [] h z c s := by
  refine jp_load (pc2 := 41) (n := 2) rfl rfl rfl rfl ?_
  refine jp_load (pc2 := 42) (n := 0) rfl rfl rfl rfl ?_
  refine jp_getf (pc2 := 45) rfl rfl e2 e3 ?_
  refine jp_load (pc2 := 47) (n := 5) rfl rfl rfl rfl ?_
  refine jp_iald (pc2 := 48) rfl rfl e6 (vp_in_nI b7 c8) ?_
  rw [(nI_clamp (Nat.lt_trans b7 c8))]
  rw [e10]
  refine jp_bin (pc2 := 49) (v := (nI a_2) ||| (nI v9)) rfl rfl rfl ?_
  refine jp_store (pc2 := 50) (n := 2) rfl rfl ⟨rfl, rfl⟩ rfl (Nat.le_of_ble_eq_true rfl) ?_
  exact K
theorem c33_50 {r_0 : Nat} {a_1 : Nat} {a_2 : Nat} {a_3 : Nat} {a_4 : Nat} {a_5 : Nat}  (K : ip sc call 33 MC MS Q 24 [some (.ref r_0), some (.int (nI a_1)), some (.int (nI a_2)), some (.int (nI a_3)), some (.int (nI a_4)), some (.int (nI (a_5 + 1)))] [] h z c s) : ip sc call 33 MC MS Q 50 [some (.ref r_0), some (.int (nI a_1)), some (.int (nI a_2)), some (.int (nI a_3)), some (.int (nI a_4)), some (.int (nI a_5))] [] h z c s := by
  refine jp_iinc (pc2 := 53) (n := 5) (v := nI (a_5 + 1)) rfl rfl rfl (nI_add _ 1) rfl ?_
  refine ip_goto rfl ?_
  exact K
theorem c33_56 {r_0 : Nat} {a_1 : Nat} {a_2 : Nat} {a_3 : Nat} {a_4 : Nat} {o_5 : Option Value} (c1 : a_2 < 2147483648) (c2 : a_4 < 2147483648) (K1 : ¬ a_2 = a_4 → ip sc call 33 MC MS Q 65 [some (.ref r_0), some (.int (nI a_1)), some (.int (nI a_2)), some (.int (nI a_3)), some (.int (nI a_4)), o_5] [] h z c s) (K2 : ¬ (¬ a_2 = a_4) → ip sc call 33 MC MS Q 62 [some (.ref r_0), some (.int (nI a_1)), some (.int (nI a_2)), some (.int (nI a_3)), some (.int (nI a_4)), o_5] [] h z c s) : ip sc call 33 MC MS Q 56 [some (.ref r_0), some (.int (nI a_1)), some (.int (nI a_2)), some (.int (nI a_3)), some (.int (nI a_4)), o_5] [] h z c s := by
  refine jp_load (pc2 := 57) (n := 2) rfl rfl rfl rfl ?_
  refine jp_load (pc2 := 59) (n := 4) rfl rfl rfl rfl ?_
  exact jp_icmp (pc2 := 62) rfl rfl (fun q => K1 ((not_congr (nI_eq c1 c2)).mp q)) (fun q => K2 (fun r => q ((not_congr (nI_eq c1 c2)).mpr r)))
theorem c33_62 {r_0 : Nat} {o_1 : Option Value} {a_2 : Nat} {o_3 : Option Value} {o_4 : Option Value} {o_5 : Option Value}  (K : ip sc call 33 MC MS Q 71 [some (.ref r_0), o_1, some (.int (nI a_2)), o_3, o_4, o_5] [] h z c s) : ip sc call 33 MC MS Q 62 [some (.ref r_0), o_1, some (.int (nI a_2)), o_3, o_4, o_5] [] h z c s := by
  refine ip_goto rfl ?_
  exact K
theorem c33_65 {r_0 : Nat} {a_1 : Nat} {a_2 : Nat} {a_3 : Nat} {o_4 : Option Value} {o_5 : Option Value}  (K : ip sc call 33 MC MS Q 13 [some (.ref r_0), some (.int (nI a_1)), some (.int (nI a_2)), some (.int (nI (a_3 + 1))), o_4, o_5] [] h z c s) : ip sc call 33 MC MS Q 65 [some (.ref r_0), some (.int (nI a_1)), some (.int (nI a_2)), some (.int (nI a_3)), o_4, o_5] [] h z c s := by
  refine jp_iinc (pc2 := 68) (n := 3) (v := nI (a_3 + 1)) rfl rfl rfl (nI_add _ 1) rfl ?_
  refine ip_goto rfl ?_
  exact K
theorem c33_71 {r_0 : Nat} {o_1 : Option Value} {a_2 : Nat} {o_3 : Option Value} {o_4 : Option Value} {o_5 : Option Value} {fs1 : List Value} {v_fs1_4 : Nat} (e2 : h r_0 = some (.inr (5, fs1))) (e3 : fs1[4]? = some (.int (nI v_fs1_4))) (l4 : fs1.length = 5) (q5 : Q (some (.int (nI a_2))) (hup h r_0 (.inr (5, (fs1.set 4 (.int ((nI v_fs1_4) &&& ((nI a_2) ^^^ ((-1))))))))) z)  : ip sc call 33 MC MS Q 71 [some (.ref r_0), o_1, some (.int (nI a_2)), o_3, o_4, o_5] [] h z c s := by
  refine jp_load (pc2 := 72) (n := 0) rfl rfl rfl rfl ?_
  refine jp_dup (pc2 := 73) rfl rfl rfl ?_
  refine jp_getf (pc2 := 76) rfl rfl e2 e3 ?_
  refine jp_load (pc2 := 77) (n := 2) rfl rfl rfl rfl ?_
  refine jp_con (pc2 := 78) (v := (.int ((-1)))) rfl rfl rfl ?_
  refine jp_bin (pc2 := 79) (v := (nI a_2) ^^^ ((-1))) rfl rfl rfl ?_
  refine jp_bin (pc2 := 80) (v := (nI v_fs1_4) &&& ((nI a_2) ^^^ ((-1)))) rfl rfl rfl ?_
  refine jp_putf (pc2 := 83) rfl rfl e2 (ln_lt l4 (by decide)) ⟨rfl, rfl⟩ ?_
  refine jp_load (pc2 := 84) (n := 2) rfl rfl rfl rfl ?_
  exact ip_iret (st := []) rfl rfl rfl q5
theorem c34_0 {r_0 : Nat} {a_1 : Nat} {r_2 : Nat} {o_3 : Option Value} {o_4 : Option Value}  (K : ip sc call 34 MC MS Q 5 [some (.ref r_0), some (.int (nI a_1)), some (.ref r_2), some (.int (nI 0)), some (.int (nI 0))] [] h z c s) : ip sc call 34 MC MS Q 0 [some (.ref r_0), some (.int (nI a_1)), some (.ref r_2), o_3, o_4] [] h z c s := by
  refine jp_con (pc2 := 1) (v := (.int (nI 0))) rfl rfl rfl ?_
  refine jp_store (pc2 := 2) (n := 3) rfl rfl ⟨rfl, rfl⟩ rfl (Nat.le_of_ble_eq_true rfl) ?_
  refine jp_con (pc2 := 3) (v := (.int (nI 0))) rfl rfl rfl ?_
  refine jp_store (pc2 := 5) (n := 4) rfl rfl ⟨rfl, rfl⟩ rfl (Nat.le_of_ble_eq_true rfl) ?_
  exact K
theorem c34_5 {r_0 : Nat} {a_1 : Nat} {r_2 : Nat} {a_3 : Nat} {a_4 : Nat} {fs1 : List Value} {v_fs1_8 : Nat} (e2 : h r_2 = some (.inr (6, fs1))) (e3 : fs1[8]? = some (.int (nI v_fs1_8))) (c4 : a_4 < 2147483648) (c5 : v_fs1_8 < 2147483648) (K1 : v_fs1_8 ≤ a_4 → ip sc call 34 MC MS Q 55 [some (.ref r_0), some (.int (nI a_1)), some (.ref r_2), some (.int (nI a_3)), some (.int (nI a_4))] [] h z c s) (K2 : ¬ (v_fs1_8 ≤ a_4) → ip sc call 34 MC MS Q 14 [some (.ref r_0), some (.int (nI a_1)), some (.ref r_2), some (.int (nI a_3)), some (.int (nI a_4))] [] h z c s) : ip sc call 34 MC MS Q 5 [some (.ref r_0), some (.int (nI a_1)), some (.ref r_2), some (.int (nI a_3)), some (.int (nI a_4))] [] h z c s := by
  refine jp_load (pc2 := 7) (n := 4) rfl rfl rfl rfl ?_
  refine jp_load (pc2 := 8) (n := 2) rfl rfl rfl rfl ?_
  refine jp_getf (pc2 := 11) rfl rfl e2 e3 ?_
  exact jp_icmp (pc2 := 14) rfl rfl (fun q => K1 ((nI_leI c5 c4).mp q)) (fun q => K2 (fun r => q ((nI_leI c5 c4).mpr r)))
theorem c34_14 {r_0 : Nat} {a_1 : Nat} {r_2 : Nat} {a_3 : Nat} {a_4 : Nat} {fs1 : List Value} {q_fs1_0 : Nat} {n4 : Nat} {f5 : Nat → Int32} {v9 : Nat} (e2 : h r_0 = some (.inr (5, fs1))) (e3 : fs1[0]? = some (.ref q_fs1_0)) (e6 : h q_fs1_0 = some (.inl (0, n4, .inl f5))) (b7 : a_4 < n4) (c8 : n4 < 2147483648) (e10 : f5 a_4 = nI v9) (c11 : v9 < 2147483648) (K1 : v9 ≤ 0 → ip sc call 34 MC MS Q 49 [some (.ref r_0), some (.int (nI a_1)), some (.ref r_2), some (.int (nI a_3)), some (.int (nI a_4))] [] h z c s) (K2 : ¬ (v9 ≤ 0) → ip sc call 34 MC MS Q 24 [some (.ref r_0), some (.int (nI a_1)), some (.ref r_2), some (.int (nI a_3)), some (.int (nI a_4))] [] h z c s) : ip sc call 34 MC MS Q 14 [some (.ref r_0), some (.int (nI a_1)), some (.ref r_2), some (.int (nI a_3)), some (.int (nI a_4))] [] h z c s := by
  refine jp_load (pc2 := 15) (n := 0) rfl rfl rfl rfl ?_
  refine jp_getf (pc2 := 18) rfl rfl e2 e3 ?_
  refine jp_load (pc2 := 20) (n := 4) rfl rfl rfl rfl ?_
  refine jp_iald (pc2 := 21) rfl rfl e6 (vp_in_nI b7 c8) ?_
  rw [(nI_clamp (Nat.lt_trans b7 c8))]
  rw [e10]
  exact jp_if0 (pc2 := 24) rfl rfl (fun q => K1 ((nI_leI c11 (by decide)).mp q)) (fun q => K2 (fun r => q ((nI_leI c11 (by decide)).mpr r)))
theorem c34_24 {r_0 : Nat} {a_1 : Nat} {r_2 : Nat} {a_3 : Nat} {a_4 : Nat} {fs1 : List Value} {q_fs1_1 : Nat} {n4 : Nat} {f5 : Nat → Int32} {v9 : Nat} (e2 : h r_0 = some (.inr (5, fs1))) (e3 : fs1[1]? = some (.ref q_fs1_1)) (e6 : h q_fs1_1 = some (.inl (0, n4, .inl f5))) (b7 : a_4 < n4) (c8 : n4 < 2147483648) (e10 : f5 a_4 = nI v9) (K1 : ¬ (((nI a_1) >>> ((nI v9) &&& 31)) &&& (nI 1)) = (nI 1) → ip sc call 34 MC MS Q 49 [some (.ref r_0), some (.int (nI a_1)), some (.ref r_2), some (.int (nI a_3)), some (.int (nI a_4))] [] h z c s) (K2 : ¬ (¬ (((nI a_1) >>> ((nI v9) &&& 31)) &&& (nI 1)) = (nI 1)) → ip sc call 34 MC MS Q 39 [some (.ref r_0), some (.int (nI a_1)), some (.ref r_2), some (.int (nI a_3)), some (.int (nI a_4))] [] h z c s) : ip sc call 34 MC MS Q 24 [some (.ref r_0), some (.int (nI a_1)), some (.ref r_2), some (.int (nI a_3)), some (.int (nI a_4))] [] h z c s := by
  refine jp_load (pc2 := 25) (n := 1) rfl rfl rfl rfl ?_
  refine jp_load (pc2 := 26) (n := 0) rfl rfl rfl rfl ?_
  refine jp_getf (pc2 := 29) rfl rfl e2 e3 ?_
  refine jp_load (pc2 := 31) (n := 4) rfl rfl rfl rfl ?_
  refine jp_iald (pc2 := 32) rfl rfl e6 (vp_in_nI b7 c8) ?_
  rw [(nI_clamp (Nat.lt_trans b7 c8))]
  rw [e10]
  refine jp_bin (pc2 := 33) (v := (nI a_1) >>> ((nI v9) &&& 31)) rfl rfl rfl ?_
  refine jp_con (pc2 := 34) (v := (.int (nI 1))) rfl rfl rfl ?_
  refine jp_bin (pc2 := 35) (v := ((nI a_1) >>> ((nI v9) &&& 31)) &&& (nI 1)) rfl rfl rfl ?_
  refine jp_con (pc2 := 36) (v := (.int (nI 1))) rfl rfl rfl ?_
  exact jp_icmp (pc2 := 39) rfl rfl K1 K2
theorem c34_39 {r_0 : Nat} {a_1 : Nat} {r_2 : Nat} {a_3 : Nat} {a_4 : Nat} {fs1 : List Value} {q_fs1_4 : Nat} {n4 : Nat} {f5 : Nat → Int32} {v9 : Nat} (e2 : h r_2 = some (.inr (6, fs1))) (e3 : fs1[4]? = some (.ref q_fs1_4)) (e6 : h q_fs1_4 = some (.inl (0, n4, .inl f5))) (b7 : a_4 < n4) (c8 : n4 < 2147483648) (e10 : f5 a_4 = nI v9) (K : ip sc call 34 MC MS Q 49 [some (.ref r_0), some (.int (nI a_1)), some (.ref r_2), some (.int (nI (a_3 + v9))), some (.int (nI a_4))] [] h z c s) : ip sc call 34 MC MS Q 39 [some (.ref r_0), some (.int (nI a_1)), some (.ref r_2), some (.int (nI a_3)), some (.int (nI a_4))] [] h z c s := by
  refine jp_load (pc2 := 40) (n := 3) rfl rfl rfl rfl ?_
  refine jp_load (pc2 := 41) (n := 2) rfl rfl rfl rfl ?_
  refine jp_getf (pc2 := 44) rfl rfl e2 e3 ?_
  refine jp_load (pc2 := 46) (n := 4) rfl rfl rfl rfl ?_
  refine jp_iald (pc2 := 47) rfl rfl e6 (vp_in_nI b7 c8) ?_
  rw [(nI_clamp (Nat.lt_trans b7 c8))]
  rw [e10]
  refine jp_bin (pc2 := 48) (v := nI (a_3 + v9)) rfl rfl (congrArg some (nI_add _ _)) ?_
  refine jp_store (pc2 := 49) (n := 3) rfl rfl ⟨rfl, rfl⟩ rfl (Nat.le_of_ble_eq_true rfl) ?_
  exact K
theorem c34_49 {r_0 : Nat} {a_1 : Nat} {r_2 : Nat} {a_3 : Nat} {a_4 : Nat}  (K : ip sc call 34 MC MS Q 5 [some (.ref r_0), some (.int (nI a_1)), some (.ref r_2), some (.int (nI a_3)), some (.int (nI (a_4 + 1)))] [] h z c s) : ip sc call 34 MC MS Q 49 [some (.ref r_0), some (.int (nI a_1)), some (.ref r_2), some (.int (nI a_3)), some (.int (nI a_4))] [] h z c s := by
  refine jp_iinc (pc2 := 52) (n := 4) (v := nI (a_4 + 1)) rfl rfl rfl (nI_add _ 1) rfl ?_
  refine ip_goto rfl ?_
  exact K
theorem c34_55 {o_0 : Option Value} {o_1 : Option Value} {o_2 : Option Value} {a_3 : Nat} {o_4 : Option Value} (q1 : Q (some (.int (nI a_3))) h z)  : ip sc call 34 MC MS Q 55 [o_0, o_1, o_2, some (.int (nI a_3)), o_4] [] h z c s := by
  refine jp_load (pc2 := 56) (n := 3) rfl rfl rfl rfl ?_
  exact ip_iret (st := []) rfl rfl rfl q1
theorem c73_42 {o_0 : Option Value} (q1 : Q none h z)  : ip sc call 73 MC MS Q 42 [o_0] [] h z c s := by
  exact ip_vret (st := []) rfl rfl q1
theorem c74_0 {r_0 : Nat} {a_1 : Nat} (c1 : a_1 < 2147483648) (K1 : a_1 < 1 → ip sc call 74 MC MS Q 11 [some (.ref r_0), some (.int (nI a_1))] [] h z c s) (K2 : ¬ (a_1 < 1) → ip sc call 74 MC MS Q 5 [some (.ref r_0), some (.int (nI a_1))] [] h z c s) : ip sc call 74 MC MS Q 0 [some (.ref r_0), some (.int (nI a_1))] [] h z c s := by
  refine jp_load (pc2 := 1) (n := 1) rfl rfl rfl rfl ?_
  refine jp_con (pc2 := 2) (v := (.int (nI 1))) rfl rfl rfl ?_
  exact jp_icmp (pc2 := 5) rfl rfl (fun q => K1 ((nI_ltI c1 (by decide)).mp q)) (fun q => K2 (fun r => q ((nI_ltI c1 (by decide)).mpr r)))
theorem c74_5 {r_0 : Nat} {a_1 : Nat} (c1 : a_1 < 2147483648) (K1 : a_1 ≤ 8 → ip sc call 74 MC MS Q 13 [some (.ref r_0), some (.int (nI a_1))] [] h z c s) (K2 : ¬ (a_1 ≤ 8) → ip sc call 74 MC MS Q 11 [some (.ref r_0), some (.int (nI a_1))] [] h z c s) : ip sc call 74 MC MS Q 5 [some (.ref r_0), some (.int (nI a_1))] [] h z c s := by
  refine jp_load (pc2 := 6) (n := 1) rfl rfl rfl rfl ?_
  refine jp_con (pc2 := 8) (v := (.int (nI 8))) rfl rfl rfl ?_
  exact jp_icmp (pc2 := 11) rfl rfl (fun q => K1 ((nI_leI c1 (by decide)).mp q)) (fun q => K2 (fun r => q ((nI_leI c1 (by decide)).mpr r)))
theorem c74_11 {o_0 : Option Value} {o_1 : Option Value} (q1 : Q (some (.int (nI 0))) h z)  : ip sc call 74 MC MS Q 11 [o_0, o_1] [] h z c s := by
  refine jp_con (pc2 := 12) (v := (.int (nI 0))) rfl rfl rfl ?_
  exact ip_iret (st := []) rfl rfl rfl q1
theorem c74_13 {r_0 : Nat} {a_1 : Nat} {fs1 : List Value} {q_fs1_0 : Nat} {fs4 : List Value} {P : ipQ} (e2 : h r_0 = some (.inr (8, fs1))) (e3 : fs1[0]? = some (.ref q_fs1_0)) (e5 : h q_fs1_0 = some (.inr (0, fs4))) (m6 : c ≤ MC) (m7 : s ≤ MS) (hc : call 2 [(.ref q_fs1_0), (.int (nI a_1))] h z 0 0 P) (K : ∀ (o : Option Value) (h2 : HP) (z2 : Nat), P o h2 z2 → ip sc call 74 MC MS Q 21 [some (.ref r_0), some (.int (nI a_1))] (o.toList ++ []) h2 z2 c s) : ip sc call 74 MC MS Q 13 [some (.ref r_0), some (.int (nI a_1))] [] h z c s := by
  refine jp_load (pc2 := 14) (n := 0) rfl rfl rfl rfl ?_
  refine jp_getf (pc2 := 17) rfl rfl e2 e3 ?_
  refine jp_load (pc2 := 18) (n := 1) rfl rfl rfl rfl ?_
  exact jp_virt0 (pc2 := 21) (As := [(.int (nI a_1))]) (rest := []) rfl rfl rfl (Nat.le_of_ble_eq_true rfl) e5 m6 m7 hc rfl K
theorem c74_21 {o_0 : Option Value} {o_1 : Option Value} (q1 : Q (some (.int (nI 1))) h z)  : ip sc call 74 MC MS Q 21 [o_0, o_1] [] h z c s := by
  refine jp_con (pc2 := 22) (v := (.int (nI 1))) rfl rfl rfl ?_
  exact ip_iret (st := []) rfl rfl rfl q1
theorem c75_0 {r_0 : Nat} {a_1 : Nat} {o_2 : Option Value} {fs1 : List Value} {q_fs1_0 : Nat} {fs4 : List Value} {P : ipQ} (e2 : h r_0 = some (.inr (8, fs1))) (e3 : fs1[0]? = some (.ref q_fs1_0)) (e5 : h q_fs1_0 = some (.inr (0, fs4))) (m6 : c ≤ MC) (m7 : s ≤ MS) (hc : call 1 [(.ref q_fs1_0)] h z 0 0 P) (K : ∀ (o : Option Value) (h2 : HP) (z2 : Nat), P o h2 z2 → ip sc call 75 MC MS Q 7 [some (.ref r_0), some (.int (nI a_1)), o_2] (o.toList ++ []) h2 z2 c s) : ip sc call 75 MC MS Q 0 [some (.ref r_0), some (.int (nI a_1)), o_2] [] h z c s := by
  refine jp_load (pc2 := 1) (n := 0) rfl rfl rfl rfl ?_
  refine jp_getf (pc2 := 4) rfl rfl e2 e3 ?_
  exact jp_virt0 (pc2 := 7) (As := []) (rest := []) rfl rfl rfl (Nat.le_of_ble_eq_true rfl) e5 m6 m7 hc rfl K
theorem c75_7 {r_0 : Nat} {a_1 : Nat} {o_2 : Option Value} {sr_0 : Nat} {tgt : Nat} (t1 : ipTab 9 75 0 5 #[39, 44, 49, 60, 65, 70] (nI a_1) = some tgt) (K : ip sc call 75 MC MS Q tgt [some (.ref r_0), some (.int (nI a_1)), some (.ref sr_0)] [] h z c s) : ip sc call 75 MC MS Q 7 [some (.ref r_0), some (.int (nI a_1)), o_2] [(.ref sr_0)] h z c s := by
  refine jp_store (pc2 := 8) (n := 2) rfl rfl ⟨rfl, rfl⟩ rfl (Nat.le_of_ble_eq_true rfl) ?_
  refine jp_load (pc2 := 9) (n := 1) rfl rfl rfl rfl ?_
  exact ip_tab rfl t1 K
theorem c75_48 {o_0 : Option Value} {o_1 : Option Value} {r_2 : Nat} {fs1 : List Value} {v_fs1_8 : Nat} (e2 : h r_2 = some (.inr (6, fs1))) (e3 : fs1[8]? = some (.int (nI v_fs1_8))) (q4 : Q (some (.int (nI v_fs1_8))) h z)  : ip sc call 75 MC MS Q 48 [o_0, o_1, some (.ref r_2)] [] h z c s := by
  refine jp_load (pc2 := 49) (n := 2) rfl rfl rfl rfl ?_
  refine jp_getf (pc2 := 52) rfl rfl e2 e3 ?_
  exact ip_iret (st := []) rfl rfl rfl q4
theorem c75_53 {o_0 : Option Value} {o_1 : Option Value} {r_2 : Nat} {fs1 : List Value} {v_fs1_7 : Nat} (e2 : h r_2 = some (.inr (6, fs1))) (e3 : fs1[7]? = some (.int (nI v_fs1_7))) (q4 : Q (some (.int (nI v_fs1_7))) h z)  : ip sc call 75 MC MS Q 53 [o_0, o_1, some (.ref r_2)] [] h z c s := by
  refine jp_load (pc2 := 54) (n := 2) rfl rfl rfl rfl ?_
  refine jp_getf (pc2 := 57) rfl rfl e2 e3 ?_
  exact ip_iret (st := []) rfl rfl rfl q4
theorem c75_58 {r_0 : Nat} {o_1 : Option Value} {o_2 : Option Value} {fs1 : List Value} {q_fs1_0 : Nat} {fs4 : List Value} {q_fs4_0 : Nat} {fs7 : List Value} {v_fs7_2 : Nat} (e2 : h r_0 = some (.inr (8, fs1))) (e3 : fs1[0]? = some (.ref q_fs1_0)) (e5 : h q_fs1_0 = some (.inr (0, fs4))) (e6 : fs4[0]? = some (.ref q_fs4_0)) (e8 : h q_fs4_0 = some (.inr (4, fs7))) (e9 : fs7[2]? = some (.int (nI v_fs7_2))) (q10 : Q (some (.int (nI v_fs7_2))) h z)  : ip sc call 75 MC MS Q 58 [some (.ref r_0), o_1, o_2] [] h z c s := by
  refine jp_load (pc2 := 59) (n := 0) rfl rfl rfl rfl ?_
  refine jp_getf (pc2 := 62) rfl rfl e2 e3 ?_
  refine jp_getf (pc2 := 65) rfl rfl e5 e6 ?_
  refine jp_getf (pc2 := 68) rfl rfl e8 e9 ?_
  exact ip_iret (st := []) rfl rfl rfl q10
theorem c75_69 {o_0 : Option Value} {o_1 : Option Value} {r_2 : Nat} {fs1 : List Value} {v_fs1_10 : Nat} (e2 : h r_2 = some (.inr (6, fs1))) (e3 : fs1[10]? = some (.int (nI v_fs1_10))) (q4 : Q (some (.int (nI v_fs1_10))) h z)  : ip sc call 75 MC MS Q 69 [o_0, o_1, some (.ref r_2)] [] h z c s := by
  refine jp_load (pc2 := 70) (n := 2) rfl rfl rfl rfl ?_
  refine jp_getf (pc2 := 73) rfl rfl e2 e3 ?_
  exact ip_iret (st := []) rfl rfl rfl q4
theorem c75_74 {o_0 : Option Value} {o_1 : Option Value} {r_2 : Nat} {fs1 : List Value} {v_fs1_6 : Nat} (e2 : h r_2 = some (.inr (6, fs1))) (e3 : fs1[6]? = some (.int (nI v_fs1_6))) (q4 : Q (some (.int (nI v_fs1_6))) h z)  : ip sc call 75 MC MS Q 74 [o_0, o_1, some (.ref r_2)] [] h z c s := by
  refine jp_load (pc2 := 75) (n := 2) rfl rfl rfl rfl ?_
  refine jp_getf (pc2 := 78) rfl rfl e2 e3 ?_
  exact ip_iret (st := []) rfl rfl rfl q4
theorem c75_79 {o_0 : Option Value} {o_1 : Option Value} {r_2 : Nat} {fs1 : List Value} {v_fs1_9 : Nat} (e2 : h r_2 = some (.inr (6, fs1))) (e3 : fs1[9]? = some (.int (nI v_fs1_9))) (q4 : Q (some (.int (nI v_fs1_9))) h z)  : ip sc call 75 MC MS Q 79 [o_0, o_1, some (.ref r_2)] [] h z c s := by
  refine jp_load (pc2 := 80) (n := 2) rfl rfl rfl rfl ?_
  refine jp_getf (pc2 := 83) rfl rfl e2 e3 ?_
  exact ip_iret (st := []) rfl rfl rfl q4
theorem c75_84 {o_0 : Option Value} {o_1 : Option Value} {o_2 : Option Value} (q1 : Q (some (.int ((-1)))) h z)  : ip sc call 75 MC MS Q 84 [o_0, o_1, o_2] [] h z c s := by
  refine jp_con (pc2 := 85) (v := (.int ((-1)))) rfl rfl rfl ?_
  exact ip_iret (st := []) rfl rfl rfl q1
theorem c76_0 {r_0 : Nat} {a_1 : Nat} {o_2 : Option Value} {fs1 : List Value} {q_fs1_0 : Nat} {fs4 : List Value} {P : ipQ} (e2 : h r_0 = some (.inr (8, fs1))) (e3 : fs1[0]? = some (.ref q_fs1_0)) (e5 : h q_fs1_0 = some (.inr (0, fs4))) (m6 : c ≤ MC) (m7 : s ≤ MS) (hc : call 1 [(.ref q_fs1_0)] h z 0 0 P) (K : ∀ (o : Option Value) (h2 : HP) (z2 : Nat), P o h2 z2 → ip sc call 76 MC MS Q 7 [some (.ref r_0), some (.int (nI a_1)), o_2] (o.toList ++ []) h2 z2 c s) : ip sc call 76 MC MS Q 0 [some (.ref r_0), some (.int (nI a_1)), o_2] [] h z c s := by
  refine jp_load (pc2 := 1) (n := 0) rfl rfl rfl rfl ?_
  refine jp_getf (pc2 := 4) rfl rfl e2 e3 ?_
  exact jp_virt0 (pc2 := 7) (As := []) (rest := []) rfl rfl rfl (Nat.le_of_ble_eq_true rfl) e5 m6 m7 hc rfl K
theorem c76_7 {o_0 : Option Value} {a_1 : Nat} {o_2 : Option Value} {sr_0 : Nat} {fs1 : List Value} {P : ipQ} (e2 : h sr_0 = some (.inr (6, fs1))) (m3 : c ≤ MC) (m4 : s ≤ MS) (hc : call 36 [(.ref sr_0), (.int (nI a_1))] h z 0 0 P) (K : ∀ (o : Option Value) (h2 : HP) (z2 : Nat), P o h2 z2 → ip sc call 76 MC MS Q 13 [o_0, some (.int (nI a_1)), some (.ref sr_0)] (o.toList ++ []) h2 z2 c s) : ip sc call 76 MC MS Q 7 [o_0, some (.int (nI a_1)), o_2] [(.ref sr_0)] h z c s := by
  refine jp_store (pc2 := 8) (n := 2) rfl rfl ⟨rfl, rfl⟩ rfl (Nat.le_of_ble_eq_true rfl) ?_
  refine jp_load (pc2 := 9) (n := 2) rfl rfl rfl rfl ?_
  refine jp_load (pc2 := 10) (n := 1) rfl rfl rfl rfl ?_
  exact jp_virt0 (pc2 := 13) (As := [(.int (nI a_1))]) (rest := []) rfl rfl rfl (Nat.le_of_ble_eq_true rfl) e2 m3 m4 hc rfl K
theorem c76_13 {o_0 : Option Value} {a_1 : Nat} {r_2 : Nat} {sa_0 : Nat} (c1 : sa_0 < 2147483648) (K1 : sa_0 = 0 → ip sc call 76 MC MS Q 24 [o_0, some (.int (nI a_1)), some (.ref r_2)] [] h z c s) (K2 : ¬ (sa_0 = 0) → ip sc call 76 MC MS Q 16 [o_0, some (.int (nI a_1)), some (.ref r_2)] [] h z c s) : ip sc call 76 MC MS Q 13 [o_0, some (.int (nI a_1)), some (.ref r_2)] [(.int (nI sa_0))] h z c s := by
  exact jp_if0 (pc2 := 16) rfl rfl (fun q => K1 ((nI_eq c1 (by decide)).mp q)) (fun q => K2 (fun r => q ((nI_eq c1 (by decide)).mpr r)))
theorem c76_16 {o_0 : Option Value} {a_1 : Nat} {r_2 : Nat} {fs1 : List Value} {P : ipQ} (e2 : h r_2 = some (.inr (6, fs1))) (m3 : c ≤ MC) (m4 : s ≤ MS) (hc : call 39 [(.ref r_2), (.int (nI a_1))] h z 0 0 P) (K : ∀ (o : Option Value) (h2 : HP) (z2 : Nat), P o h2 z2 → ip sc call 76 MC MS Q 21 [o_0, some (.int (nI a_1)), some (.ref r_2)] (o.toList ++ []) h2 z2 c s) : ip sc call 76 MC MS Q 16 [o_0, some (.int (nI a_1)), some (.ref r_2)] [] h z c s := by
  refine jp_load (pc2 := 17) (n := 2) rfl rfl rfl rfl ?_
  refine jp_load (pc2 := 18) (n := 1) rfl rfl rfl rfl ?_
  exact jp_virt0 (pc2 := 21) (As := [(.int (nI a_1))]) (rest := []) rfl rfl rfl (Nat.le_of_ble_eq_true rfl) e2 m3 m4 hc rfl K
theorem c76_21 {o_0 : Option Value} {o_1 : Option Value} {o_2 : Option Value} {sa_0 : Nat}  (K : ip sc call 76 MC MS Q 25 [o_0, o_1, o_2] [(.int (nI sa_0))] h z c s) : ip sc call 76 MC MS Q 21 [o_0, o_1, o_2] [(.int (nI sa_0))] h z c s := by
  refine ip_goto rfl ?_
  exact K
theorem c76_24 {o_0 : Option Value} {o_1 : Option Value} {o_2 : Option Value}  (K : ip sc call 76 MC MS Q 25 [o_0, o_1, o_2] [(.int ((-1)))] h z c s) : ip sc call 76 MC MS Q 24 [o_0, o_1, o_2] [] h z c s := by
  refine jp_con (pc2 := 25) (v := (.int ((-1)))) rfl rfl rfl ?_
  exact K
theorem c76_25 {o_0 : Option Value} {o_1 : Option Value} {o_2 : Option Value} {sa_0 : Nat} (q1 : Q (some (.int (nI sa_0))) h z)  : ip sc call 76 MC MS Q 25 [o_0, o_1, o_2] [(.int (nI sa_0))] h z c s := by
  exact ip_iret (st := []) rfl rfl rfl q1
theorem c77_0 {r_0 : Nat} {a_1 : Nat} {a_2 : Nat} {o_3 : Option Value} {fs1 : List Value} {q_fs1_0 : Nat} {fs4 : List Value} {P : ipQ} (e2 : h r_0 = some (.inr (8, fs1))) (e3 : fs1[0]? = some (.ref q_fs1_0)) (e5 : h q_fs1_0 = some (.inr (0, fs4))) (m6 : c ≤ MC) (m7 : s ≤ MS) (hc : call 1 [(.ref q_fs1_0)] h z 0 0 P) (K : ∀ (o : Option Value) (h2 : HP) (z2 : Nat), P o h2 z2 → ip sc call 77 MC MS Q 7 [some (.ref r_0), some (.int (nI a_1)), some (.int (nI a_2)), o_3] (o.toList ++ []) h2 z2 c s) : ip sc call 77 MC MS Q 0 [some (.ref r_0), some (.int (nI a_1)), some (.int (nI a_2)), o_3] [] h z c s := by
  refine jp_load (pc2 := 1) (n := 0) rfl rfl rfl rfl ?_
  refine jp_getf (pc2 := 4) rfl rfl e2 e3 ?_
  exact jp_virt0 (pc2 := 7) (As := []) (rest := []) rfl rfl rfl (Nat.le_of_ble_eq_true rfl) e5 m6 m7 hc rfl K
theorem c77_7 {o_0 : Option Value} {a_1 : Nat} {a_2 : Nat} {o_3 : Option Value} {sr_0 : Nat} {fs1 : List Value} {P : ipQ} (e2 : h sr_0 = some (.inr (6, fs1))) (m3 : c ≤ MC) (m4 : s ≤ MS) (hc : call 37 [(.ref sr_0), (.int (nI a_1)), (.int (nI a_2))] h z 0 0 P) (K : ∀ (o : Option Value) (h2 : HP) (z2 : Nat), P o h2 z2 → ip sc call 77 MC MS Q 14 [o_0, some (.int (nI a_1)), some (.int (nI a_2)), some (.ref sr_0)] (o.toList ++ []) h2 z2 c s) : ip sc call 77 MC MS Q 7 [o_0, some (.int (nI a_1)), some (.int (nI a_2)), o_3] [(.ref sr_0)] h z c s := by
  refine jp_store (pc2 := 8) (n := 3) rfl rfl ⟨rfl, rfl⟩ rfl (Nat.le_of_ble_eq_true rfl) ?_
  refine jp_load (pc2 := 9) (n := 3) rfl rfl rfl rfl ?_
  refine jp_load (pc2 := 10) (n := 1) rfl rfl rfl rfl ?_
  refine jp_load (pc2 := 11) (n := 2) rfl rfl rfl rfl ?_
  exact jp_virt0 (pc2 := 14) (As := [(.int (nI a_1)), (.int (nI a_2))]) (rest := []) rfl rfl rfl (Nat.le_of_ble_eq_true rfl) e2 m3 m4 hc rfl K
theorem c77_14 {o_0 : Option Value} {a_1 : Nat} {a_2 : Nat} {r_3 : Nat} {sa_0 : Nat} (c1 : sa_0 < 2147483648) (K1 : sa_0 = 0 → ip sc call 77 MC MS Q 26 [o_0, some (.int (nI a_1)), some (.int (nI a_2)), some (.ref r_3)] [] h z c s) (K2 : ¬ (sa_0 = 0) → ip sc call 77 MC MS Q 17 [o_0, some (.int (nI a_1)), some (.int (nI a_2)), some (.ref r_3)] [] h z c s) : ip sc call 77 MC MS Q 14 [o_0, some (.int (nI a_1)), some (.int (nI a_2)), some (.ref r_3)] [(.int (nI sa_0))] h z c s := by
  exact jp_if0 (pc2 := 17) rfl rfl (fun q => K1 ((nI_eq c1 (by decide)).mp q)) (fun q => K2 (fun r => q ((nI_eq c1 (by decide)).mpr r)))
theorem c77_17 {o_0 : Option Value} {a_1 : Nat} {a_2 : Nat} {r_3 : Nat} {fs1 : List Value} {P : ipQ} (e2 : h r_3 = some (.inr (6, fs1))) (m3 : c ≤ MC) (m4 : s ≤ MS) (hc : call 40 [(.ref r_3), (.int (nI a_1)), (.int (nI a_2))] h z 0 0 P) (K : ∀ (o : Option Value) (h2 : HP) (z2 : Nat), P o h2 z2 → ip sc call 77 MC MS Q 23 [o_0, some (.int (nI a_1)), some (.int (nI a_2)), some (.ref r_3)] (o.toList ++ []) h2 z2 c s) : ip sc call 77 MC MS Q 17 [o_0, some (.int (nI a_1)), some (.int (nI a_2)), some (.ref r_3)] [] h z c s := by
  refine jp_load (pc2 := 18) (n := 3) rfl rfl rfl rfl ?_
  refine jp_load (pc2 := 19) (n := 1) rfl rfl rfl rfl ?_
  refine jp_load (pc2 := 20) (n := 2) rfl rfl rfl rfl ?_
  exact jp_virt0 (pc2 := 23) (As := [(.int (nI a_1)), (.int (nI a_2))]) (rest := []) rfl rfl rfl (Nat.le_of_ble_eq_true rfl) e2 m3 m4 hc rfl K
theorem c77_23 {o_0 : Option Value} {o_1 : Option Value} {o_2 : Option Value} {o_3 : Option Value} {sa_0 : Nat}  (K : ip sc call 77 MC MS Q 27 [o_0, o_1, o_2, o_3] [(.int (nI sa_0))] h z c s) : ip sc call 77 MC MS Q 23 [o_0, o_1, o_2, o_3] [(.int (nI sa_0))] h z c s := by
  refine ip_goto rfl ?_
  exact K
theorem c77_26 {o_0 : Option Value} {o_1 : Option Value} {o_2 : Option Value} {o_3 : Option Value}  (K : ip sc call 77 MC MS Q 27 [o_0, o_1, o_2, o_3] [(.int ((-1)))] h z c s) : ip sc call 77 MC MS Q 26 [o_0, o_1, o_2, o_3] [] h z c s := by
  refine jp_con (pc2 := 27) (v := (.int ((-1)))) rfl rfl rfl ?_
  exact K
theorem c77_27 {o_0 : Option Value} {o_1 : Option Value} {o_2 : Option Value} {o_3 : Option Value} {sa_0 : Nat} (q1 : Q (some (.int (nI sa_0))) h z)  : ip sc call 77 MC MS Q 27 [o_0, o_1, o_2, o_3] [(.int (nI sa_0))] h z c s := by
  exact ip_iret (st := []) rfl rfl rfl q1
theorem c78_0 {r_0 : Nat} {a_1 : Nat} {a_2 : Nat} {a_3 : Nat} {o_4 : Option Value} {fs1 : List Value} {q_fs1_0 : Nat} {fs4 : List Value} {P : ipQ} (e2 : h r_0 = some (.inr (8, fs1))) (e3 : fs1[0]? = some (.ref q_fs1_0)) (e5 : h q_fs1_0 = some (.inr (0, fs4))) (m6 : c ≤ MC) (m7 : s ≤ MS) (hc : call 1 [(.ref q_fs1_0)] h z 0 0 P) (K : ∀ (o : Option Value) (h2 : HP) (z2 : Nat), P o h2 z2 → ip sc call 78 MC MS Q 7 [some (.ref r_0), some (.int (nI a_1)), some (.int (nI a_2)), some (.int (nI a_3)), o_4] (o.toList ++ []) h2 z2 c s) : ip sc call 78 MC MS Q 0 [some (.ref r_0), some (.int (nI a_1)), some (.int (nI a_2)), some (.int (nI a_3)), o_4] [] h z c s := by
  refine jp_load (pc2 := 1) (n := 0) rfl rfl rfl rfl ?_
  refine jp_getf (pc2 := 4) rfl rfl e2 e3 ?_
  exact jp_virt0 (pc2 := 7) (As := []) (rest := []) rfl rfl rfl (Nat.le_of_ble_eq_true rfl) e5 m6 m7 hc rfl K
theorem c78_7 {o_0 : Option Value} {a_1 : Nat} {a_2 : Nat} {a_3 : Nat} {o_4 : Option Value} {sr_0 : Nat} {fs1 : List Value} {P : ipQ} (e2 : h sr_0 = some (.inr (6, fs1))) (m3 : c ≤ MC) (m4 : s ≤ MS) (hc : call 38 [(.ref sr_0), (.int (nI a_1)), (.int (nI a_2)), (.int (nI a_3))] h z 0 0 P) (K : ∀ (o : Option Value) (h2 : HP) (z2 : Nat), P o h2 z2 → ip sc call 78 MC MS Q 17 [o_0, some (.int (nI a_1)), some (.int (nI a_2)), some (.int (nI a_3)), some (.ref sr_0)] (o.toList ++ []) h2 z2 c s) : ip sc call 78 MC MS Q 7 [o_0, some (.int (nI a_1)), some (.int (nI a_2)), some (.int (nI a_3)), o_4] [(.ref sr_0)] h z c s := by
  refine jp_store (pc2 := 9) (n := 4) rfl rfl ⟨rfl, rfl⟩ rfl (Nat.le_of_ble_eq_true rfl) ?_
  refine jp_load (pc2 := 11) (n := 4) rfl rfl rfl rfl ?_
  refine jp_load (pc2 := 12) (n := 1) rfl rfl rfl rfl ?_
  refine jp_load (pc2 := 13) (n := 2) rfl rfl rfl rfl ?_
  refine jp_load (pc2 := 14) (n := 3) rfl rfl rfl rfl ?_
  exact jp_virt0 (pc2 := 17) (As := [(.int (nI a_1)), (.int (nI a_2)), (.int (nI a_3))]) (rest := []) rfl rfl rfl (Nat.le_of_ble_eq_true rfl) e2 m3 m4 hc rfl K
theorem c78_17 {o_0 : Option Value} {a_1 : Nat} {a_2 : Nat} {a_3 : Nat} {r_4 : Nat} {sa_0 : Nat} (c1 : sa_0 < 2147483648) (K1 : sa_0 = 0 → ip sc call 78 MC MS Q 31 [o_0, some (.int (nI a_1)), some (.int (nI a_2)), some (.int (nI a_3)), some (.ref r_4)] [] h z c s) (K2 : ¬ (sa_0 = 0) → ip sc call 78 MC MS Q 20 [o_0, some (.int (nI a_1)), some (.int (nI a_2)), some (.int (nI a_3)), some (.ref r_4)] [] h z c s) : ip sc call 78 MC MS Q 17 [o_0, some (.int (nI a_1)), some (.int (nI a_2)), some (.int (nI a_3)), some (.ref r_4)] [(.int (nI sa_0))] h z c s := by
  exact jp_if0 (pc2 := 20) rfl rfl (fun q => K1 ((nI_eq c1 (by decide)).mp q)) (fun q => K2 (fun r => q ((nI_eq c1 (by decide)).mpr r)))
theorem c78_20 {o_0 : Option Value} {a_1 : Nat} {a_2 : Nat} {a_3 : Nat} {r_4 : Nat} {fs1 : List Value} {P : ipQ} (e2 : h r_4 = some (.inr (6, fs1))) (m3 : c ≤ MC) (m4 : s ≤ MS) (hc : call 42 [(.ref r_4), (.int (nI a_1)), (.int (nI a_2)), (.int (nI a_3))] h z 0 0 P) (K : ∀ (o : Option Value) (h2 : HP) (z2 : Nat), P o h2 z2 → ip sc call 78 MC MS Q 28 [o_0, some (.int (nI a_1)), some (.int (nI a_2)), some (.int (nI a_3)), some (.ref r_4)] (o.toList ++ []) h2 z2 c s) : ip sc call 78 MC MS Q 20 [o_0, some (.int (nI a_1)), some (.int (nI a_2)), some (.int (nI a_3)), some (.ref r_4)] [] h z c s := by
  refine jp_load (pc2 := 22) (n := 4) rfl rfl rfl rfl ?_
  refine jp_load (pc2 := 23) (n := 1) rfl rfl rfl rfl ?_
  refine jp_load (pc2 := 24) (n := 2) rfl rfl rfl rfl ?_
  refine jp_load (pc2 := 25) (n := 3) rfl rfl rfl rfl ?_
  exact jp_virt0 (pc2 := 28) (As := [(.int (nI a_1)), (.int (nI a_2)), (.int (nI a_3))]) (rest := []) rfl rfl rfl (Nat.le_of_ble_eq_true rfl) e2 m3 m4 hc rfl K
theorem c78_28 {o_0 : Option Value} {o_1 : Option Value} {o_2 : Option Value} {o_3 : Option Value} {o_4 : Option Value} {sa_0 : Nat}  (K : ip sc call 78 MC MS Q 32 [o_0, o_1, o_2, o_3, o_4] [(.int (nI sa_0))] h z c s) : ip sc call 78 MC MS Q 28 [o_0, o_1, o_2, o_3, o_4] [(.int (nI sa_0))] h z c s := by
  refine ip_goto rfl ?_
  exact K
theorem c78_31 {o_0 : Option Value} {o_1 : Option Value} {o_2 : Option Value} {o_3 : Option Value} {o_4 : Option Value}  (K : ip sc call 78 MC MS Q 32 [o_0, o_1, o_2, o_3, o_4] [(.int ((-1)))] h z c s) : ip sc call 78 MC MS Q 31 [o_0, o_1, o_2, o_3, o_4] [] h z c s := by
  refine jp_con (pc2 := 32) (v := (.int ((-1)))) rfl rfl rfl ?_
  exact K
theorem c78_32 {o_0 : Option Value} {o_1 : Option Value} {o_2 : Option Value} {o_3 : Option Value} {o_4 : Option Value} {sa_0 : Nat} (q1 : Q (some (.int (nI sa_0))) h z)  : ip sc call 78 MC MS Q 32 [o_0, o_1, o_2, o_3, o_4] [(.int (nI sa_0))] h z c s := by
  exact ip_iret (st := []) rfl rfl rfl q1
theorem c79_0 {r_0 : Nat} {a_1 : Nat} {o_2 : Option Value} {fs1 : List Value} {q_fs1_0 : Nat} {fs4 : List Value} {P : ipQ} (e2 : h r_0 = some (.inr (8, fs1))) (e3 : fs1[0]? = some (.ref q_fs1_0)) (e5 : h q_fs1_0 = some (.inr (0, fs4))) (m6 : c ≤ MC) (m7 : s ≤ MS) (hc : call 1 [(.ref q_fs1_0)] h z 0 0 P) (K : ∀ (o : Option Value) (h2 : HP) (z2 : Nat), P o h2 z2 → ip sc call 79 MC MS Q 7 [some (.ref r_0), some (.int (nI a_1)), o_2] (o.toList ++ []) h2 z2 c s) : ip sc call 79 MC MS Q 0 [some (.ref r_0), some (.int (nI a_1)), o_2] [] h z c s := by
  refine jp_load (pc2 := 1) (n := 0) rfl rfl rfl rfl ?_
  refine jp_getf (pc2 := 4) rfl rfl e2 e3 ?_
  exact jp_virt0 (pc2 := 7) (As := []) (rest := []) rfl rfl rfl (Nat.le_of_ble_eq_true rfl) e5 m6 m7 hc rfl K
theorem c79_7 {o_0 : Option Value} {a_1 : Nat} {o_2 : Option Value} {sr_0 : Nat} (c1 : a_1 < 2147483648) (K1 : a_1 < 0 → ip sc call 79 MC MS Q 29 [o_0, some (.int (nI a_1)), some (.ref sr_0)] [] h z c s) (K2 : ¬ (a_1 < 0) → ip sc call 79 MC MS Q 12 [o_0, some (.int (nI a_1)), some (.ref sr_0)] [] h z c s) : ip sc call 79 MC MS Q 7 [o_0, some (.int (nI a_1)), o_2] [(.ref sr_0)] h z c s := by
  refine jp_store (pc2 := 8) (n := 2) rfl rfl ⟨rfl, rfl⟩ rfl (Nat.le_of_ble_eq_true rfl) ?_
  refine jp_load (pc2 := 9) (n := 1) rfl rfl rfl rfl ?_
  exact jp_if0 (pc2 := 12) rfl rfl (fun q => K1 ((nI_ltI c1 (by decide)).mp q)) (fun q => K2 (fun r => q ((nI_ltI c1 (by decide)).mpr r)))
theorem c79_12 {o_0 : Option Value} {a_1 : Nat} {r_2 : Nat} {fs1 : List Value} {v_fs1_8 : Nat} (e2 : h r_2 = some (.inr (6, fs1))) (e3 : fs1[8]? = some (.int (nI v_fs1_8))) (c4 : a_1 < 2147483648) (c5 : v_fs1_8 < 2147483648) (K1 : v_fs1_8 ≤ a_1 → ip sc call 79 MC MS Q 29 [o_0, some (.int (nI a_1)), some (.ref r_2)] [] h z c s) (K2 : ¬ (v_fs1_8 ≤ a_1) → ip sc call 79 MC MS Q 20 [o_0, some (.int (nI a_1)), some (.ref r_2)] [] h z c s) : ip sc call 79 MC MS Q 12 [o_0, some (.int (nI a_1)), some (.ref r_2)] [] h z c s := by
  refine jp_load (pc2 := 13) (n := 1) rfl rfl rfl rfl ?_
  refine jp_load (pc2 := 14) (n := 2) rfl rfl rfl rfl ?_
  refine jp_getf (pc2 := 17) rfl rfl e2 e3 ?_
  exact jp_icmp (pc2 := 20) rfl rfl (fun q => K1 ((nI_leI c5 c4).mp q)) (fun q => K2 (fun r => q ((nI_leI c5 c4).mpr r)))
theorem c79_20 {o_0 : Option Value} {a_1 : Nat} {r_2 : Nat} {fs1 : List Value} {q_fs1_4 : Nat} {n4 : Nat} {f5 : Nat → Int32} {v9 : Nat} (e2 : h r_2 = some (.inr (6, fs1))) (e3 : fs1[4]? = some (.ref q_fs1_4)) (e6 : h q_fs1_4 = some (.inl (0, n4, .inl f5))) (b7 : a_1 < n4) (c8 : n4 < 2147483648) (e10 : f5 a_1 = nI v9) (K : ip sc call 79 MC MS Q 30 [o_0, some (.int (nI a_1)), some (.ref r_2)] [(.int (nI v9))] h z c s) : ip sc call 79 MC MS Q 20 [o_0, some (.int (nI a_1)), some (.ref r_2)] [] h z c s := by
  refine jp_load (pc2 := 21) (n := 2) rfl rfl rfl rfl ?_
  refine jp_getf (pc2 := 24) rfl rfl e2 e3 ?_
  refine jp_load (pc2 := 25) (n := 1) rfl rfl rfl rfl ?_
  refine jp_iald (pc2 := 26) rfl rfl e6 (vp_in_nI b7 c8) ?_
  rw [(nI_clamp (Nat.lt_trans b7 c8))]
  rw [e10]
  refine ip_goto rfl ?_
  exact K
theorem c79_29 {o_0 : Option Value} {o_1 : Option Value} {o_2 : Option Value}  (K : ip sc call 79 MC MS Q 30 [o_0, o_1, o_2] [(.int ((-1)))] h z c s) : ip sc call 79 MC MS Q 29 [o_0, o_1, o_2] [] h z c s := by
  refine jp_con (pc2 := 30) (v := (.int ((-1)))) rfl rfl rfl ?_
  exact K
theorem c79_30 {o_0 : Option Value} {o_1 : Option Value} {o_2 : Option Value} {sa_0 : Nat} (q1 : Q (some (.int (nI sa_0))) h z)  : ip sc call 79 MC MS Q 30 [o_0, o_1, o_2] [(.int (nI sa_0))] h z c s := by
  exact ip_iret (st := []) rfl rfl rfl q1
theorem c80_0 {r_0 : Nat} {a_1 : Nat} {a_2 : Nat} {a_3 : Nat} {a_4 : Nat} {a_5 : Nat} {a_6 : Nat} {fs1 : List Value} {q_fs1_2 : Nat} {fs4 : List Value} {q_fs1_0 : Nat} {fs9 : List Value} {P : ipQ} (e2 : h r_0 = some (.inr (8, fs1))) (e3 : fs1[2]? = some (.ref q_fs1_2)) (e5 : h q_fs1_2 = some (.inr (2, fs4))) (l6 : fs4.length = 6) (n7 : r_0 ≠ q_fs1_2) (e8 : fs1[0]? = some (.ref q_fs1_0)) (e10 : h q_fs1_0 = some (.inr (0, fs9))) (n11 : q_fs1_0 ≠ q_fs1_2) (m12 : c ≤ MC) (m13 : s ≤ MS) (hc : call 1 [(.ref q_fs1_0)] (hup h q_fs1_2 (.inr (2, ((((((fs4.set 0 (.int (nI a_1))).set 1 (.int (nI a_2))).set 2 (.int (nI a_3))).set 3 (.int (nI a_4))).set 4 (.int (nI a_5))).set 5 (.int (nI a_6)))))) z 0 0 P) (K : ∀ (o : Option Value) (h2 : HP) (z2 : Nat), P o h2 z2 → ip sc call 80 MC MS Q 58 [some (.ref r_0), some (.int (nI a_1)), some (.int (nI a_2)), some (.int (nI a_3)), some (.int (nI a_4)), some (.int (nI a_5)), some (.int (nI a_6))] (o.toList ++ []) h2 z2 c s) : ip sc call 80 MC MS Q 0 [some (.ref r_0), some (.int (nI a_1)), some (.int (nI a_2)), some (.int (nI a_3)), some (.int (nI a_4)), some (.int (nI a_5)), some (.int (nI a_6))] [] h z c s := by
  refine jp_load (pc2 := 1) (n := 0) rfl rfl rfl rfl ?_
  refine jp_getf (pc2 := 4) rfl rfl e2 e3 ?_
  refine jp_load (pc2 := 5) (n := 1) rfl rfl rfl rfl ?_
  refine jp_putf (pc2 := 8) rfl rfl e5 (ln_lt l6 (by decide)) ⟨rfl, rfl⟩ ?_
  refine jp_load (pc2 := 9) (n := 0) rfl rfl rfl rfl ?_
  refine jp_getf (pc2 := 12) rfl rfl (hup_ne n7 e2) e3 ?_
  refine jp_load (pc2 := 13) (n := 2) rfl rfl rfl rfl ?_
  refine jp_putf (pc2 := 16) rfl rfl hup_eq (ls_lt (ln_lt l6 (by decide))) ⟨rfl, rfl⟩ ?_
  rw [hup_hup]
  refine jp_load (pc2 := 17) (n := 0) rfl rfl rfl rfl ?_
  refine jp_getf (pc2 := 20) rfl rfl (hup_ne n7 e2) e3 ?_
  refine jp_load (pc2 := 21) (n := 3) rfl rfl rfl rfl ?_
  refine jp_putf (pc2 := 24) rfl rfl hup_eq (ls_lt (ls_lt (ln_lt l6 (by decide)))) ⟨rfl, rfl⟩ ?_
  rw [hup_hup]
  refine jp_load (pc2 := 25) (n := 0) rfl rfl rfl rfl ?_
  refine jp_getf (pc2 := 28) rfl rfl (hup_ne n7 e2) e3 ?_
  refine jp_load (pc2 := 30) (n := 4) rfl rfl rfl rfl ?_
  refine jp_putf (pc2 := 33) rfl rfl hup_eq (ls_lt (ls_lt (ls_lt (ln_lt l6 (by decide))))) ⟨rfl, rfl⟩ ?_
  rw [hup_hup]
  refine jp_load (pc2 := 34) (n := 0) rfl rfl rfl rfl ?_
  refine jp_getf (pc2 := 37) rfl rfl (hup_ne n7 e2) e3 ?_
  refine jp_load (pc2 := 39) (n := 5) rfl rfl rfl rfl ?_
  refine jp_putf (pc2 := 42) rfl rfl hup_eq (ls_lt (ls_lt (ls_lt (ls_lt (ln_lt l6 (by decide)))))) ⟨rfl, rfl⟩ ?_
  rw [hup_hup]
  refine jp_load (pc2 := 43) (n := 0) rfl rfl rfl rfl ?_
  refine jp_getf (pc2 := 46) rfl rfl (hup_ne n7 e2) e3 ?_
  refine jp_load (pc2 := 48) (n := 6) rfl rfl rfl rfl ?_
  refine jp_putf (pc2 := 51) rfl rfl hup_eq (ls_lt (ls_lt (ls_lt (ls_lt (ls_lt (ln_lt l6 (by decide))))))) ⟨rfl, rfl⟩ ?_
  rw [hup_hup]
  refine jp_load (pc2 := 52) (n := 0) rfl rfl rfl rfl ?_
  refine jp_getf (pc2 := 55) rfl rfl (hup_ne n7 e2) e8 ?_
  exact jp_virt0 (pc2 := 58) (As := []) (rest := []) rfl rfl rfl (Nat.le_of_ble_eq_true rfl) (hup_ne n11 e10) m12 m13 hc rfl K
theorem c80_58 {r_0 : Nat} {o_1 : Option Value} {o_2 : Option Value} {o_3 : Option Value} {o_4 : Option Value} {o_5 : Option Value} {o_6 : Option Value} {sr_0 : Nat} {fs1 : List Value} {q_fs1_2 : Nat} {fs4 : List Value} {P : ipQ} (e2 : h r_0 = some (.inr (8, fs1))) (e3 : fs1[2]? = some (.ref q_fs1_2)) (e5 : h sr_0 = some (.inr (6, fs4))) (m6 : c ≤ MC) (m7 : s ≤ MS) (hc : call 45 [(.ref sr_0), (.ref q_fs1_2)] h z 0 0 P) (K : ∀ (o : Option Value) (h2 : HP) (z2 : Nat), P o h2 z2 → ip sc call 80 MC MS Q 65 [some (.ref r_0), o_1, o_2, o_3, o_4, o_5, o_6] (o.toList ++ []) h2 z2 c s) : ip sc call 80 MC MS Q 58 [some (.ref r_0), o_1, o_2, o_3, o_4, o_5, o_6] [(.ref sr_0)] h z c s := by
  refine jp_load (pc2 := 59) (n := 0) rfl rfl rfl rfl ?_
  refine jp_getf (pc2 := 62) rfl rfl e2 e3 ?_
  exact jp_virt0 (pc2 := 65) (As := [(.ref q_fs1_2)]) (rest := []) rfl rfl rfl (Nat.le_of_ble_eq_true rfl) e5 m6 m7 hc rfl K
theorem c80_65 {r_0 : Nat} {o_1 : Option Value} {o_2 : Option Value} {o_3 : Option Value} {o_4 : Option Value} {o_5 : Option Value} {o_6 : Option Value} {sa_0 : Nat} (c1 : sa_0 < 2147483648) (K1 : sa_0 = 0 → ip sc call 80 MC MS Q 82 [some (.ref r_0), o_1, o_2, o_3, o_4, o_5, o_6] [] h z c s) (K2 : ¬ (sa_0 = 0) → ip sc call 80 MC MS Q 68 [some (.ref r_0), o_1, o_2, o_3, o_4, o_5, o_6] [] h z c s) : ip sc call 80 MC MS Q 65 [some (.ref r_0), o_1, o_2, o_3, o_4, o_5, o_6] [(.int (nI sa_0))] h z c s := by
  exact jp_if0 (pc2 := 68) rfl rfl (fun q => K1 ((nI_eq c1 (by decide)).mp q)) (fun q => K2 (fun r => q ((nI_eq c1 (by decide)).mpr r)))
theorem c80_68 {r_0 : Nat} {o_1 : Option Value} {o_2 : Option Value} {o_3 : Option Value} {o_4 : Option Value} {o_5 : Option Value} {o_6 : Option Value} {fs1 : List Value} {q_fs1_0 : Nat} {q_fs1_2 : Nat} {fs5 : List Value} {P : ipQ} (e2 : h r_0 = some (.inr (8, fs1))) (e3 : fs1[0]? = some (.ref q_fs1_0)) (e4 : fs1[2]? = some (.ref q_fs1_2)) (e6 : h q_fs1_0 = some (.inr (0, fs5))) (m7 : c ≤ MC) (m8 : s ≤ MS) (hc : call 3 [(.ref q_fs1_0), (.ref q_fs1_2)] h z 0 0 P) (K : ∀ (o : Option Value) (h2 : HP) (z2 : Nat), P o h2 z2 → ip sc call 80 MC MS Q 79 [some (.ref r_0), o_1, o_2, o_3, o_4, o_5, o_6] (o.toList ++ []) h2 z2 c s) : ip sc call 80 MC MS Q 68 [some (.ref r_0), o_1, o_2, o_3, o_4, o_5, o_6] [] h z c s := by
  refine jp_load (pc2 := 69) (n := 0) rfl rfl rfl rfl ?_
  refine jp_getf (pc2 := 72) rfl rfl e2 e3 ?_
  refine jp_load (pc2 := 73) (n := 0) rfl rfl rfl rfl ?_
  refine jp_getf (pc2 := 76) rfl rfl e2 e4 ?_
  exact jp_virt0 (pc2 := 79) (As := [(.ref q_fs1_2)]) (rest := []) rfl rfl rfl (Nat.le_of_ble_eq_true rfl) e6 m7 m8 hc rfl K
theorem c80_79 {o_0 : Option Value} {o_1 : Option Value} {o_2 : Option Value} {o_3 : Option Value} {o_4 : Option Value} {o_5 : Option Value} {o_6 : Option Value} {sa_0 : Nat}  (K : ip sc call 80 MC MS Q 83 [o_0, o_1, o_2, o_3, o_4, o_5, o_6] [(.int (nI sa_0))] h z c s) : ip sc call 80 MC MS Q 79 [o_0, o_1, o_2, o_3, o_4, o_5, o_6] [(.int (nI sa_0))] h z c s := by
  refine ip_goto rfl ?_
  exact K
theorem c80_82 {o_0 : Option Value} {o_1 : Option Value} {o_2 : Option Value} {o_3 : Option Value} {o_4 : Option Value} {o_5 : Option Value} {o_6 : Option Value}  (K : ip sc call 80 MC MS Q 83 [o_0, o_1, o_2, o_3, o_4, o_5, o_6] [(.int ((-1)))] h z c s) : ip sc call 80 MC MS Q 82 [o_0, o_1, o_2, o_3, o_4, o_5, o_6] [] h z c s := by
  refine jp_con (pc2 := 83) (v := (.int ((-1)))) rfl rfl rfl ?_
  exact K
theorem c80_83 {o_0 : Option Value} {o_1 : Option Value} {o_2 : Option Value} {o_3 : Option Value} {o_4 : Option Value} {o_5 : Option Value} {o_6 : Option Value} {sa_0 : Nat} (q1 : Q (some (.int (nI sa_0))) h z)  : ip sc call 80 MC MS Q 83 [o_0, o_1, o_2, o_3, o_4, o_5, o_6] [(.int (nI sa_0))] h z c s := by
  exact ip_iret (st := []) rfl rfl rfl q1
theorem c81_0 {r_0 : Nat} {o_1 : Option Value} {o_2 : Option Value} {o_3 : Option Value} {fs1 : List Value} {q_fs1_0 : Nat} {fs4 : List Value} {P : ipQ} (e2 : h r_0 = some (.inr (8, fs1))) (e3 : fs1[0]? = some (.ref q_fs1_0)) (e5 : h q_fs1_0 = some (.inr (0, fs4))) (m6 : c ≤ MC) (m7 : s ≤ MS) (hc : call 1 [(.ref q_fs1_0)] h z 0 0 P) (K : ∀ (o : Option Value) (h2 : HP) (z2 : Nat), P o h2 z2 → ip sc call 81 MC MS Q 7 [some (.ref r_0), o_1, o_2, o_3] (o.toList ++ []) h2 z2 c s) : ip sc call 81 MC MS Q 0 [some (.ref r_0), o_1, o_2, o_3] [] h z c s := by
  refine jp_load (pc2 := 1) (n := 0) rfl rfl rfl rfl ?_
  refine jp_getf (pc2 := 4) rfl rfl e2 e3 ?_
  exact jp_virt0 (pc2 := 7) (As := []) (rest := []) rfl rfl rfl (Nat.le_of_ble_eq_true rfl) e5 m6 m7 hc rfl K
theorem c81_7 {r_0 : Nat} {o_1 : Option Value} {o_2 : Option Value} {o_3 : Option Value} {sr_0 : Nat} {fs1 : List Value} {q_fs1_2 : Nat} {fs4 : List Value} {P : ipQ} (e2 : h r_0 = some (.inr (8, fs1))) (e3 : fs1[2]? = some (.ref q_fs1_2)) (e5 : h q_fs1_2 = some (.inr (2, fs4))) (m6 : c ≤ MC) (m7 : s ≤ MS) (hc : call 11 [(.ref q_fs1_2)] h z 0 0 P) (K : ∀ (o : Option Value) (h2 : HP) (z2 : Nat), P o h2 z2 → ip sc call 81 MC MS Q 17 [some (.ref r_0), some (.ref sr_0), some (.int (nI 0)), o_3] (o.toList ++ []) h2 z2 c s) : ip sc call 81 MC MS Q 7 [some (.ref r_0), o_1, o_2, o_3] [(.ref sr_0)] h z c s := by
  refine jp_store (pc2 := 8) (n := 1) rfl rfl ⟨rfl, rfl⟩ rfl (Nat.le_of_ble_eq_true rfl) ?_
  refine jp_con (pc2 := 9) (v := (.int (nI 0))) rfl rfl rfl ?_
  refine jp_store (pc2 := 10) (n := 2) rfl rfl ⟨rfl, rfl⟩ rfl (Nat.le_of_ble_eq_true rfl) ?_
  refine jp_load (pc2 := 11) (n := 0) rfl rfl rfl rfl ?_
  refine jp_getf (pc2 := 14) rfl rfl e2 e3 ?_
  exact jp_virt0 (pc2 := 17) (As := []) (rest := []) rfl rfl rfl (Nat.le_of_ble_eq_true rfl) e5 m6 m7 hc rfl K
theorem c81_17 {r_0 : Nat} {r_1 : Nat} {a_2 : Nat} {o_3 : Option Value}  (K : ip sc call 81 MC MS Q 19 [some (.ref r_0), some (.ref r_1), some (.int (nI a_2)), some (.int (nI 0))] [] h z c s) : ip sc call 81 MC MS Q 17 [some (.ref r_0), some (.ref r_1), some (.int (nI a_2)), o_3] [] h z c s := by
  refine jp_con (pc2 := 18) (v := (.int (nI 0))) rfl rfl rfl ?_
  refine jp_store (pc2 := 19) (n := 3) rfl rfl ⟨rfl, rfl⟩ rfl (Nat.le_of_ble_eq_true rfl) ?_
  exact K
theorem c81_19 {r_0 : Nat} {r_1 : Nat} {a_2 : Nat} {a_3 : Nat} (c1 : a_3 < 2147483648) (K1 : 1000000 ≤ a_3 → ip sc call 81 MC MS Q 53 [some (.ref r_0), some (.ref r_1), some (.int (nI a_2)), some (.int (nI a_3))] [] h z c s) (K2 : ¬ (1000000 ≤ a_3) → ip sc call 81 MC MS Q 25 [some (.ref r_0), some (.ref r_1), some (.int (nI a_2)), some (.int (nI a_3))] [] h z c s) : ip sc call 81 MC MS Q 19 [some (.ref r_0), some (.ref r_1), some (.int (nI a_2)), some (.int (nI a_3))] [] h z c s := by
  refine jp_load (pc2 := 20) (n := 3) rfl rfl rfl rfl ?_
  refine jp_con (pc2 := 22) (v := (.int (nI 1000000))) rfl rfl rfl ?_
  exact jp_icmp (pc2 := 25) rfl rfl (fun q => K1 ((nI_leI (by decide) c1).mp q)) (fun q => K2 (fun r => q ((nI_leI (by decide) c1).mpr r)))
theorem c81_25 {r_0 : Nat} {r_1 : Nat} {a_2 : Nat} {a_3 : Nat} {fs1 : List Value} {q_fs1_2 : Nat} {fs4 : List Value} {P : ipQ} (e2 : h r_0 = some (.inr (8, fs1))) (e3 : fs1[2]? = some (.ref q_fs1_2)) (e5 : h r_1 = some (.inr (6, fs4))) (m6 : c ≤ MC) (m7 : s ≤ MS) (hc : call 46 [(.ref r_1), (.ref q_fs1_2)] h z 0 0 P) (K : ∀ (o : Option Value) (h2 : HP) (z2 : Nat), P o h2 z2 → ip sc call 81 MC MS Q 33 [some (.ref r_0), some (.ref r_1), some (.int (nI a_2)), some (.int (nI a_3))] (o.toList ++ []) h2 z2 c s) : ip sc call 81 MC MS Q 25 [some (.ref r_0), some (.ref r_1), some (.int (nI a_2)), some (.int (nI a_3))] [] h z c s := by
  refine jp_load (pc2 := 26) (n := 1) rfl rfl rfl rfl ?_
  refine jp_load (pc2 := 27) (n := 0) rfl rfl rfl rfl ?_
  refine jp_getf (pc2 := 30) rfl rfl e2 e3 ?_
  exact jp_virt0 (pc2 := 33) (As := [(.ref q_fs1_2)]) (rest := []) rfl rfl rfl (Nat.le_of_ble_eq_true rfl) e5 m6 m7 hc rfl K
theorem c81_33 {r_0 : Nat} {r_1 : Nat} {a_2 : Nat} {a_3 : Nat} {sa_0 : Nat} (c1 : sa_0 < 2147483648) (K1 : sa_0 = 0 → ip sc call 81 MC MS Q 53 [some (.ref r_0), some (.ref r_1), some (.int (nI a_2)), some (.int (nI a_3))] [] h z c s) (K2 : ¬ (sa_0 = 0) → ip sc call 81 MC MS Q 36 [some (.ref r_0), some (.ref r_1), some (.int (nI a_2)), some (.int (nI a_3))] [] h z c s) : ip sc call 81 MC MS Q 33 [some (.ref r_0), some (.ref r_1), some (.int (nI a_2)), some (.int (nI a_3))] [(.int (nI sa_0))] h z c s := by
  exact jp_if0 (pc2 := 36) rfl rfl (fun q => K1 ((nI_eq c1 (by decide)).mp q)) (fun q => K2 (fun r => q ((nI_eq c1 (by decide)).mpr r)))
theorem c81_36 {r_0 : Nat} {r_1 : Nat} {a_2 : Nat} {a_3 : Nat} {fs1 : List Value} {q_fs1_2 : Nat} {fs4 : List Value} {P : ipQ} (e2 : h r_0 = some (.inr (8, fs1))) (e3 : fs1[2]? = some (.ref q_fs1_2)) (e5 : h r_1 = some (.inr (6, fs4))) (m6 : c ≤ MC) (m7 : s ≤ MS) (hc : call 44 [(.ref r_1), (.ref q_fs1_2)] h z 0 0 P) (K : ∀ (o : Option Value) (h2 : HP) (z2 : Nat), P o h2 z2 → ip sc call 81 MC MS Q 45 [some (.ref r_0), some (.ref r_1), some (.int (nI a_2)), some (.int (nI a_3))] (o.toList ++ [(.int (nI a_2))]) h2 z2 c s) : ip sc call 81 MC MS Q 36 [some (.ref r_0), some (.ref r_1), some (.int (nI a_2)), some (.int (nI a_3))] [] h z c s := by
  refine jp_load (pc2 := 37) (n := 2) rfl rfl rfl rfl ?_
  refine jp_load (pc2 := 38) (n := 1) rfl rfl rfl rfl ?_
  refine jp_load (pc2 := 39) (n := 0) rfl rfl rfl rfl ?_
  refine jp_getf (pc2 := 42) rfl rfl e2 e3 ?_
  exact jp_virt0 (pc2 := 45) (As := [(.ref q_fs1_2)]) (rest := [(.int (nI a_2))]) rfl rfl rfl (Nat.le_of_ble_eq_true rfl) e5 m6 m7 hc rfl K
theorem c81_45 {r_0 : Nat} {r_1 : Nat} {o_2 : Option Value} {a_3 : Nat} {sa_0 : Nat} {sa_1 : Nat}  (K : ip sc call 81 MC MS Q 19 [some (.ref r_0), some (.ref r_1), some (.int (nI (sa_0 + sa_1))), some (.int (nI (a_3 + 1)))] [] h z c s) : ip sc call 81 MC MS Q 45 [some (.ref r_0), some (.ref r_1), o_2, some (.int (nI a_3))] [(.int (nI sa_1)), (.int (nI sa_0))] h z c s := by
  refine jp_bin (pc2 := 46) (v := nI (sa_0 + sa_1)) rfl rfl (congrArg some (nI_add _ _)) ?_
  refine jp_store (pc2 := 47) (n := 2) rfl rfl ⟨rfl, rfl⟩ rfl (Nat.le_of_ble_eq_true rfl) ?_
  refine jp_iinc (pc2 := 50) (n := 3) (v := nI (a_3 + 1)) rfl rfl rfl (nI_add _ 1) rfl ?_
  refine ip_goto rfl ?_
  exact K
theorem c81_53 {o_0 : Option Value} {o_1 : Option Value} {a_2 : Nat} {o_3 : Option Value} (q1 : Q (some (.int (nI a_2))) h z)  : ip sc call 81 MC MS Q 53 [o_0, o_1, some (.int (nI a_2)), o_3] [] h z c s := by
  refine jp_load (pc2 := 54) (n := 2) rfl rfl rfl rfl ?_
  exact ip_iret (st := []) rfl rfl rfl q1
theorem c82_0 {r_0 : Nat} {a_1 : Nat} {fs1 : List Value} {q_fs1_0 : Nat} {fs4 : List Value} {P : ipQ} (e2 : h r_0 = some (.inr (8, fs1))) (e3 : fs1[0]? = some (.ref q_fs1_0)) (e5 : h q_fs1_0 = some (.inr (0, fs4))) (m6 : c ≤ MC) (m7 : s ≤ MS) (hc : call 1 [(.ref q_fs1_0)] h z 0 0 P) (K : ∀ (o : Option Value) (h2 : HP) (z2 : Nat), P o h2 z2 → ip sc call 82 MC MS Q 7 [some (.ref r_0), some (.int (nI a_1))] (o.toList ++ []) h2 z2 c s) : ip sc call 82 MC MS Q 0 [some (.ref r_0), some (.int (nI a_1))] [] h z c s := by
  refine jp_load (pc2 := 1) (n := 0) rfl rfl rfl rfl ?_
  refine jp_getf (pc2 := 4) rfl rfl e2 e3 ?_
  exact jp_virt0 (pc2 := 7) (As := []) (rest := []) rfl rfl rfl (Nat.le_of_ble_eq_true rfl) e5 m6 m7 hc rfl K
theorem c82_7 {r_0 : Nat} {a_1 : Nat} {sr_0 : Nat} {fs1 : List Value} {q_fs1_2 : Nat} {fs4 : List Value} {P : ipQ} (e2 : h r_0 = some (.inr (8, fs1))) (e3 : fs1[2]? = some (.ref q_fs1_2)) (e5 : h sr_0 = some (.inr (6, fs4))) (m6 : c ≤ MC) (m7 : s ≤ MS) (hc : call 48 [(.ref sr_0), (.int (nI a_1)), (.ref q_fs1_2)] h z 0 0 P) (K : ∀ (o : Option Value) (h2 : HP) (z2 : Nat), P o h2 z2 → ip sc call 82 MC MS Q 15 [some (.ref r_0), some (.int (nI a_1))] (o.toList ++ []) h2 z2 c s) : ip sc call 82 MC MS Q 7 [some (.ref r_0), some (.int (nI a_1))] [(.ref sr_0)] h z c s := by
  refine jp_load (pc2 := 8) (n := 1) rfl rfl rfl rfl ?_
  refine jp_load (pc2 := 9) (n := 0) rfl rfl rfl rfl ?_
  refine jp_getf (pc2 := 12) rfl rfl e2 e3 ?_
  exact jp_virt0 (pc2 := 15) (As := [(.int (nI a_1)), (.ref q_fs1_2)]) (rest := []) rfl rfl rfl (Nat.le_of_ble_eq_true rfl) e5 m6 m7 hc rfl K
theorem c82_15 {r_0 : Nat} {o_1 : Option Value} {sa_0 : Nat} (c1 : sa_0 < 2147483648) (K1 : sa_0 = 0 → ip sc call 82 MC MS Q 32 [some (.ref r_0), o_1] [] h z c s) (K2 : ¬ (sa_0 = 0) → ip sc call 82 MC MS Q 18 [some (.ref r_0), o_1] [] h z c s) : ip sc call 82 MC MS Q 15 [some (.ref r_0), o_1] [(.int (nI sa_0))] h z c s := by
  exact jp_if0 (pc2 := 18) rfl rfl (fun q => K1 ((nI_eq c1 (by decide)).mp q)) (fun q => K2 (fun r => q ((nI_eq c1 (by decide)).mpr r)))
theorem c82_18 {r_0 : Nat} {o_1 : Option Value} {fs1 : List Value} {q_fs1_0 : Nat} {q_fs1_2 : Nat} {fs5 : List Value} {P : ipQ} (e2 : h r_0 = some (.inr (8, fs1))) (e3 : fs1[0]? = some (.ref q_fs1_0)) (e4 : fs1[2]? = some (.ref q_fs1_2)) (e6 : h q_fs1_0 = some (.inr (0, fs5))) (m7 : c ≤ MC) (m8 : s ≤ MS) (hc : call 3 [(.ref q_fs1_0), (.ref q_fs1_2)] h z 0 0 P) (K : ∀ (o : Option Value) (h2 : HP) (z2 : Nat), P o h2 z2 → ip sc call 82 MC MS Q 29 [some (.ref r_0), o_1] (o.toList ++ []) h2 z2 c s) : ip sc call 82 MC MS Q 18 [some (.ref r_0), o_1] [] h z c s := by
  refine jp_load (pc2 := 19) (n := 0) rfl rfl rfl rfl ?_
  refine jp_getf (pc2 := 22) rfl rfl e2 e3 ?_
  refine jp_load (pc2 := 23) (n := 0) rfl rfl rfl rfl ?_
  refine jp_getf (pc2 := 26) rfl rfl e2 e4 ?_
  exact jp_virt0 (pc2 := 29) (As := [(.ref q_fs1_2)]) (rest := []) rfl rfl rfl (Nat.le_of_ble_eq_true rfl) e6 m7 m8 hc rfl K
theorem c82_29 {o_0 : Option Value} {o_1 : Option Value} {sa_0 : Nat}  (K : ip sc call 82 MC MS Q 33 [o_0, o_1] [(.int (nI sa_0))] h z c s) : ip sc call 82 MC MS Q 29 [o_0, o_1] [(.int (nI sa_0))] h z c s := by
  refine ip_goto rfl ?_
  exact K
theorem c82_32 {o_0 : Option Value} {o_1 : Option Value}  (K : ip sc call 82 MC MS Q 33 [o_0, o_1] [(.int ((-1)))] h z c s) : ip sc call 82 MC MS Q 32 [o_0, o_1] [] h z c s := by
  refine jp_con (pc2 := 33) (v := (.int ((-1)))) rfl rfl rfl ?_
  exact K
theorem c82_33 {o_0 : Option Value} {o_1 : Option Value} {sa_0 : Nat} (q1 : Q (some (.int (nI sa_0))) h z)  : ip sc call 82 MC MS Q 33 [o_0, o_1] [(.int (nI sa_0))] h z c s := by
  exact ip_iret (st := []) rfl rfl rfl q1
theorem c83_0 {r_0 : Nat} {a_1 : Nat} {a_2 : Nat} {fs1 : List Value} {q_fs1_0 : Nat} {fs4 : List Value} {P : ipQ} (e2 : h r_0 = some (.inr (8, fs1))) (e3 : fs1[0]? = some (.ref q_fs1_0)) (e5 : h q_fs1_0 = some (.inr (0, fs4))) (m6 : c ≤ MC) (m7 : s ≤ MS) (hc : call 1 [(.ref q_fs1_0)] h z 0 0 P) (K : ∀ (o : Option Value) (h2 : HP) (z2 : Nat), P o h2 z2 → ip sc call 83 MC MS Q 7 [some (.ref r_0), some (.int (nI a_1)), some (.int (nI a_2))] (o.toList ++ []) h2 z2 c s) : ip sc call 83 MC MS Q 0 [some (.ref r_0), some (.int (nI a_1)), some (.int (nI a_2))] [] h z c s := by
  refine jp_load (pc2 := 1) (n := 0) rfl rfl rfl rfl ?_
  refine jp_getf (pc2 := 4) rfl rfl e2 e3 ?_
  exact jp_virt0 (pc2 := 7) (As := []) (rest := []) rfl rfl rfl (Nat.le_of_ble_eq_true rfl) e5 m6 m7 hc rfl K
theorem c83_7 {r_0 : Nat} {a_1 : Nat} {a_2 : Nat} {sr_0 : Nat} {fs1 : List Value} {q_fs1_2 : Nat} {fs4 : List Value} {P : ipQ} (e2 : h r_0 = some (.inr (8, fs1))) (e3 : fs1[2]? = some (.ref q_fs1_2)) (e5 : h sr_0 = some (.inr (6, fs4))) (m6 : c ≤ MC) (m7 : s ≤ MS) (hc : call 48 [(.ref sr_0), (.int (nI a_1)), (.ref q_fs1_2)] h z 0 0 P) (K : ∀ (o : Option Value) (h2 : HP) (z2 : Nat), P o h2 z2 → ip sc call 83 MC MS Q 15 [some (.ref r_0), some (.int (nI a_1)), some (.int (nI a_2))] (o.toList ++ []) h2 z2 c s) : ip sc call 83 MC MS Q 7 [some (.ref r_0), some (.int (nI a_1)), some (.int (nI a_2))] [(.ref sr_0)] h z c s := by
  refine jp_load (pc2 := 8) (n := 1) rfl rfl rfl rfl ?_
  refine jp_load (pc2 := 9) (n := 0) rfl rfl rfl rfl ?_
  refine jp_getf (pc2 := 12) rfl rfl e2 e3 ?_
  exact jp_virt0 (pc2 := 15) (As := [(.int (nI a_1)), (.ref q_fs1_2)]) (rest := []) rfl rfl rfl (Nat.le_of_ble_eq_true rfl) e5 m6 m7 hc rfl K
theorem c83_15 {r_0 : Nat} {o_1 : Option Value} {a_2 : Nat} {sa_0 : Nat} (c1 : sa_0 < 2147483648) (K1 : sa_0 = 0 → ip sc call 83 MC MS Q 29 [some (.ref r_0), o_1, some (.int (nI a_2))] [] h z c s) (K2 : ¬ (sa_0 = 0) → ip sc call 83 MC MS Q 18 [some (.ref r_0), o_1, some (.int (nI a_2))] [] h z c s) : ip sc call 83 MC MS Q 15 [some (.ref r_0), o_1, some (.int (nI a_2))] [(.int (nI sa_0))] h z c s := by
  exact jp_if0 (pc2 := 18) rfl rfl (fun q => K1 ((nI_eq c1 (by decide)).mp q)) (fun q => K2 (fun r => q ((nI_eq c1 (by decide)).mpr r)))
theorem c83_18 {r_0 : Nat} {o_1 : Option Value} {a_2 : Nat} {fs1 : List Value} {q_fs1_2 : Nat} {fs4 : List Value} {P : ipQ} (e2 : h r_0 = some (.inr (8, fs1))) (e3 : fs1[2]? = some (.ref q_fs1_2)) (e5 : h q_fs1_2 = some (.inr (2, fs4))) (m6 : c ≤ MC) (m7 : s ≤ MS) (hc : call 13 [(.ref q_fs1_2), (.int (nI a_2))] h z 0 0 P) (K : ∀ (o : Option Value) (h2 : HP) (z2 : Nat), P o h2 z2 → ip sc call 83 MC MS Q 26 [some (.ref r_0), o_1, some (.int (nI a_2))] (o.toList ++ []) h2 z2 c s) : ip sc call 83 MC MS Q 18 [some (.ref r_0), o_1, some (.int (nI a_2))] [] h z c s := by
  refine jp_load (pc2 := 19) (n := 0) rfl rfl rfl rfl ?_
  refine jp_getf (pc2 := 22) rfl rfl e2 e3 ?_
  refine jp_load (pc2 := 23) (n := 2) rfl rfl rfl rfl ?_
  exact jp_virt0 (pc2 := 26) (As := [(.int (nI a_2))]) (rest := []) rfl rfl rfl (Nat.le_of_ble_eq_true rfl) e5 m6 m7 hc rfl K
theorem c83_26 {o_0 : Option Value} {o_1 : Option Value} {o_2 : Option Value} {sa_0 : Nat}  (K : ip sc call 83 MC MS Q 30 [o_0, o_1, o_2] [(.int (nI sa_0))] h z c s) : ip sc call 83 MC MS Q 26 [o_0, o_1, o_2] [(.int (nI sa_0))] h z c s := by
  refine ip_goto rfl ?_
  exact K
theorem c83_29 {o_0 : Option Value} {o_1 : Option Value} {o_2 : Option Value}  (K : ip sc call 83 MC MS Q 30 [o_0, o_1, o_2] [(.int ((-1)))] h z c s) : ip sc call 83 MC MS Q 29 [o_0, o_1, o_2] [] h z c s := by
  refine jp_con (pc2 := 30) (v := (.int ((-1)))) rfl rfl rfl ?_
  exact K
theorem c83_30 {o_0 : Option Value} {o_1 : Option Value} {o_2 : Option Value} {sa_0 : Nat} (q1 : Q (some (.int (nI sa_0))) h z)  : ip sc call 83 MC MS Q 30 [o_0, o_1, o_2] [(.int (nI sa_0))] h z c s := by
  exact ip_iret (st := []) rfl rfl rfl q1
theorem c84_0 {r_0 : Nat} {fs1 : List Value} {q_fs1_0 : Nat} {fs4 : List Value} {P : ipQ} (e2 : h r_0 = some (.inr (8, fs1))) (e3 : fs1[0]? = some (.ref q_fs1_0)) (e5 : h q_fs1_0 = some (.inr (0, fs4))) (m6 : c ≤ MC) (m7 : s ≤ MS) (hc : call 4 [(.ref q_fs1_0)] h z 0 0 P) (K : ∀ (o : Option Value) (h2 : HP) (z2 : Nat), P o h2 z2 → ip sc call 84 MC MS Q 7 [some (.ref r_0)] (o.toList ++ []) h2 z2 c s) : ip sc call 84 MC MS Q 0 [some (.ref r_0)] [] h z c s := by
  refine jp_load (pc2 := 1) (n := 0) rfl rfl rfl rfl ?_
  refine jp_getf (pc2 := 4) rfl rfl e2 e3 ?_
  exact jp_virt0 (pc2 := 7) (As := []) (rest := []) rfl rfl rfl (Nat.le_of_ble_eq_true rfl) e5 m6 m7 hc rfl K
theorem c84_7 {o_0 : Option Value} {sa_0 : Nat} (q1 : Q (some (.int (nI sa_0))) h z)  : ip sc call 84 MC MS Q 7 [o_0] [(.int (nI sa_0))] h z c s := by
  exact ip_iret (st := []) rfl rfl rfl q1
theorem c85_0 {r_0 : Nat} {a_1 : Nat} {a_2 : Nat} {o_3 : Option Value} {fs1 : List Value} {q_fs1_0 : Nat} {fs4 : List Value} {q_fs4_0 : Nat} (e2 : h r_0 = some (.inr (8, fs1))) (e3 : fs1[0]? = some (.ref q_fs1_0)) (e5 : h q_fs1_0 = some (.inr (0, fs4))) (e6 : fs4[0]? = some (.ref q_fs4_0)) (c7 : a_1 < 2147483648) (K1 : a_1 < 0 → ip sc call 85 MC MS Q 33 [some (.ref r_0), some (.int (nI a_1)), some (.int (nI a_2)), some (.ref q_fs4_0)] [] h z c s) (K2 : ¬ (a_1 < 0) → ip sc call 85 MC MS Q 12 [some (.ref r_0), some (.int (nI a_1)), some (.int (nI a_2)), some (.ref q_fs4_0)] [] h z c s) : ip sc call 85 MC MS Q 0 [some (.ref r_0), some (.int (nI a_1)), some (.int (nI a_2)), o_3] [] h z c s := by
  refine jp_load (pc2 := 1) (n := 0) rfl rfl rfl rfl ?_
  refine jp_getf (pc2 := 4) rfl rfl e2 e3 ?_
  refine jp_getf (pc2 := 7) rfl rfl e5 e6 ?_
  refine jp_store (pc2 := 8) (n := 3) rfl rfl ⟨rfl, rfl⟩ rfl (Nat.le_of_ble_eq_true rfl) ?_
  refine jp_load (pc2 := 9) (n := 1) rfl rfl rfl rfl ?_
  exact jp_if0 (pc2 := 12) rfl rfl (fun q => K1 ((nI_ltI c7 (by decide)).mp q)) (fun q => K2 (fun r => q ((nI_ltI c7 (by decide)).mpr r)))
theorem c85_12 {o_0 : Option Value} {a_1 : Nat} {a_2 : Nat} {r_3 : Nat} {fs1 : List Value} {v_fs1_2 : Nat} (e2 : h r_3 = some (.inr (4, fs1))) (e3 : fs1[2]? = some (.int (nI v_fs1_2))) (c4 : a_1 < 2147483648) (c5 : v_fs1_2 < 2147483648) (K1 : v_fs1_2 ≤ a_1 → ip sc call 85 MC MS Q 33 [o_0, some (.int (nI a_1)), some (.int (nI a_2)), some (.ref r_3)] [] h z c s) (K2 : ¬ (v_fs1_2 ≤ a_1) → ip sc call 85 MC MS Q 20 [o_0, some (.int (nI a_1)), some (.int (nI a_2)), some (.ref r_3)] [] h z c s) : ip sc call 85 MC MS Q 12 [o_0, some (.int (nI a_1)), some (.int (nI a_2)), some (.ref r_3)] [] h z c s := by
  refine jp_load (pc2 := 13) (n := 1) rfl rfl rfl rfl ?_
  refine jp_load (pc2 := 14) (n := 3) rfl rfl rfl rfl ?_
  refine jp_getf (pc2 := 17) rfl rfl e2 e3 ?_
  exact jp_icmp (pc2 := 20) rfl rfl (fun q => K1 ((nI_leI c5 c4).mp q)) (fun q => K2 (fun r => q ((nI_leI c5 c4).mpr r)))
theorem c85_20 {o_0 : Option Value} {a_1 : Nat} {a_2 : Nat} {r_3 : Nat} {fs1 : List Value} {q_fs1_0 : Nat} {n4 : Nat} {f5 : Nat → Option Nat} {q9 : Nat} {fs11 : List Value} {P : ipQ} (e2 : h r_3 = some (.inr (4, fs1))) (e3 : fs1[0]? = some (.ref q_fs1_0)) (e6 : h q_fs1_0 = some (.inl (4, n4, .inr (.inr (.inr (.inr f5)))))) (b7 : a_1 < n4) (c8 : n4 < 2147483648) (e10 : f5 a_1 = some q9) (e12 : h q9 = some (.inr (2, fs11))) (m13 : c ≤ MC) (m14 : s ≤ MS) (hc : call 13 [(.ref q9), (.int (nI a_2))] h z 0 0 P) (K : ∀ (o : Option Value) (h2 : HP) (z2 : Nat), P o h2 z2 → ip sc call 85 MC MS Q 30 [o_0, some (.int (nI a_1)), some (.int (nI a_2)), some (.ref r_3)] (o.toList ++ []) h2 z2 c s) : ip sc call 85 MC MS Q 20 [o_0, some (.int (nI a_1)), some (.int (nI a_2)), some (.ref r_3)] [] h z c s := by
  refine jp_load (pc2 := 21) (n := 3) rfl rfl rfl rfl ?_
  refine jp_getf (pc2 := 24) rfl rfl e2 e3 ?_
  refine jp_load (pc2 := 25) (n := 1) rfl rfl rfl rfl ?_
  refine jp_aald (pc2 := 26) rfl rfl e6 (by decide) (vp_in_nI b7 c8) ((congrArg f5 (nI_clamp (Nat.lt_trans b7 c8))).trans e10) ?_
  refine jp_load (pc2 := 27) (n := 2) rfl rfl rfl rfl ?_
  exact jp_virt0 (pc2 := 30) (As := [(.int (nI a_2))]) (rest := []) rfl rfl rfl (Nat.le_of_ble_eq_true rfl) e12 m13 m14 hc rfl K
theorem c85_30 {o_0 : Option Value} {o_1 : Option Value} {o_2 : Option Value} {o_3 : Option Value} {sa_0 : Nat}  (K : ip sc call 85 MC MS Q 34 [o_0, o_1, o_2, o_3] [(.int (nI sa_0))] h z c s) : ip sc call 85 MC MS Q 30 [o_0, o_1, o_2, o_3] [(.int (nI sa_0))] h z c s := by
  refine ip_goto rfl ?_
  exact K
theorem c85_33 {o_0 : Option Value} {o_1 : Option Value} {o_2 : Option Value} {o_3 : Option Value}  (K : ip sc call 85 MC MS Q 34 [o_0, o_1, o_2, o_3] [(.int ((-1)))] h z c s) : ip sc call 85 MC MS Q 33 [o_0, o_1, o_2, o_3] [] h z c s := by
  refine jp_con (pc2 := 34) (v := (.int ((-1)))) rfl rfl rfl ?_
  exact K
theorem c85_34 {o_0 : Option Value} {o_1 : Option Value} {o_2 : Option Value} {o_3 : Option Value} {sa_0 : Nat} (q1 : Q (some (.int (nI sa_0))) h z)  : ip sc call 85 MC MS Q 34 [o_0, o_1, o_2, o_3] [(.int (nI sa_0))] h z c s := by
  exact ip_iret (st := []) rfl rfl rfl q1
theorem c86_4 {r_0 : Nat} {sa_0 : Nat} (c1 : sa_0 < 2147483648) (K1 : sa_0 = 0 → ip sc call 86 MC MS Q 24 [some (.ref r_0)] [] h z c s) (K2 : ¬ (sa_0 = 0) → ip sc call 86 MC MS Q 7 [some (.ref r_0)] [] h z c s) : ip sc call 86 MC MS Q 4 [some (.ref r_0)] [(.int (nI sa_0))] h z c s := by
  exact jp_if0 (pc2 := 7) rfl rfl (fun q => K1 ((nI_eq c1 (by decide)).mp q)) (fun q => K2 (fun r => q ((nI_eq c1 (by decide)).mpr r)))
theorem c86_21 {o_0 : Option Value} {sa_0 : Nat}  (K : ip sc call 86 MC MS Q 25 [o_0] [(.int (nI sa_0))] h z c s) : ip sc call 86 MC MS Q 21 [o_0] [(.int (nI sa_0))] h z c s := by
  refine ip_goto rfl ?_
  exact K
theorem c86_24 {o_0 : Option Value}  (K : ip sc call 86 MC MS Q 25 [o_0] [(.int ((-1)))] h z c s) : ip sc call 86 MC MS Q 24 [o_0] [] h z c s := by
  refine jp_con (pc2 := 25) (v := (.int ((-1)))) rfl rfl rfl ?_
  exact K
theorem c86_25 {o_0 : Option Value} {sa_0 : Nat} (q1 : Q (some (.int (nI sa_0))) h z)  : ip sc call 86 MC MS Q 25 [o_0] [(.int (nI sa_0))] h z c s := by
  exact ip_iret (st := []) rfl rfl rfl q1
theorem c87_4 {r_0 : Nat} {sa_0 : Nat} (c1 : sa_0 < 2147483648) (K1 : sa_0 = 0 → ip sc call 87 MC MS Q 28 [some (.ref r_0)] [] h z c s) (K2 : ¬ (sa_0 = 0) → ip sc call 87 MC MS Q 7 [some (.ref r_0)] [] h z c s) : ip sc call 87 MC MS Q 4 [some (.ref r_0)] [(.int (nI sa_0))] h z c s := by
  exact jp_if0 (pc2 := 7) rfl rfl (fun q => K1 ((nI_eq c1 (by decide)).mp q)) (fun q => K2 (fun r => q ((nI_eq c1 (by decide)).mpr r)))
theorem c87_25 {o_0 : Option Value} {sa_0 : Nat}  (K : ip sc call 87 MC MS Q 29 [o_0] [(.int (nI sa_0))] h z c s) : ip sc call 87 MC MS Q 25 [o_0] [(.int (nI sa_0))] h z c s := by
  refine ip_goto rfl ?_
  exact K
theorem c87_28 {o_0 : Option Value}  (K : ip sc call 87 MC MS Q 29 [o_0] [(.int ((-1)))] h z c s) : ip sc call 87 MC MS Q 28 [o_0] [] h z c s := by
  refine jp_con (pc2 := 29) (v := (.int ((-1)))) rfl rfl rfl ?_
  exact K
theorem c87_29 {o_0 : Option Value} {sa_0 : Nat} (q1 : Q (some (.int (nI sa_0))) h z)  : ip sc call 87 MC MS Q 29 [o_0] [(.int (nI sa_0))] h z c s := by
  exact ip_iret (st := []) rfl rfl rfl q1
theorem c88_7 {r_0 : Nat} {sr_0 : Nat} {fs1 : List Value} {v_fs1_10 : Nat} (e2 : h sr_0 = some (.inr (6, fs1))) (e3 : fs1[10]? = some (.int (nI v_fs1_10))) (c4 : v_fs1_10 < 2147483648) (K1 : v_fs1_10 ≤ 9 → ip sc call 88 MC MS Q 17 [some (.ref r_0)] [] h z c s) (K2 : ¬ (v_fs1_10 ≤ 9) → ip sc call 88 MC MS Q 15 [some (.ref r_0)] [] h z c s) : ip sc call 88 MC MS Q 7 [some (.ref r_0)] [(.ref sr_0)] h z c s := by
  refine jp_getf (pc2 := 10) rfl rfl e2 e3 ?_
  refine jp_con (pc2 := 12) (v := (.int (nI 9))) rfl rfl rfl ?_
  exact jp_icmp (pc2 := 15) rfl rfl (fun q => K1 ((nI_leI c4 (by decide)).mp q)) (fun q => K2 (fun r => q ((nI_leI c4 (by decide)).mpr r)))
theorem c88_15 {o_0 : Option Value} (q1 : Q (some (.int (nI 0))) h z)  : ip sc call 88 MC MS Q 15 [o_0] [] h z c s := by
  refine jp_con (pc2 := 16) (v := (.int (nI 0))) rfl rfl rfl ?_
  exact ip_iret (st := []) rfl rfl rfl q1
theorem c88_17 {r_0 : Nat} {fs1 : List Value} {q_fs1_3 : Nat} (e2 : h r_0 = some (.inr (8, fs1))) (e3 : fs1[3]? = some (.ref q_fs1_3)) (K : ip sc call 88 MC MS Q 35 [some (.ref r_0)] [] h z c s) : ip sc call 88 MC MS Q 17 [some (.ref r_0)] [] h z c s := by
  refine jp_load (pc2 := 18) (n := 0) rfl rfl rfl rfl ?_
  refine jp_getf (pc2 := 21) rfl rfl e2 e3 ?_
  exact ip_nonnull rfl K
theorem c88_17n {r_0 : Nat} {fs1 : List Value} (e2 : h r_0 = some (.inr (8, fs1))) (e3 : fs1[3]? = some .null) (K : ip sc call 88 MC MS Q 24 [some (.ref r_0)] [] h z c s) : ip sc call 88 MC MS Q 17 [some (.ref r_0)] [] h z c s := by
  refine jp_load (pc2 := 18) (n := 0) rfl rfl rfl rfl ?_
  refine jp_getf (pc2 := 21) rfl rfl e2 e3 ?_
  exact jp_isnull (pc2 := 24) rfl rfl K
theorem c88_32 {o_0 : Option Value} {sr_0 : Nat} {sr_1 : Nat} {fs1 : List Value} (e2 : h sr_0 = some (.inr (8, fs1))) (l3 : fs1.length = 4) (K : ip sc call 88 MC MS Q 35 [o_0] [] (hup h sr_0 (.inr (8, (fs1.set 3 (.ref sr_1))))) z c s) : ip sc call 88 MC MS Q 32 [o_0] [(.ref sr_1), (.ref sr_0)] h z c s := by
  refine jp_putf (pc2 := 35) rfl rfl e2 (ln_lt l3 (by decide)) ⟨rfl, rfl⟩ ?_
  exact K
theorem c88_35 {o_0 : Option Value} (q1 : Q (some (.int (nI 1))) h z)  : ip sc call 88 MC MS Q 35 [o_0] [] h z c s := by
  refine jp_con (pc2 := 36) (v := (.int (nI 1))) rfl rfl rfl ?_
  exact ip_iret (st := []) rfl rfl rfl q1
theorem c89_0 {r_0 : Nat} {a_1 : Nat} (c1 : a_1 < 2147483648) (K1 : a_1 < 0 → ip sc call 89 MC MS Q 9 [some (.ref r_0), some (.int (nI a_1))] [] h z c s) (K2 : ¬ (a_1 < 0) → ip sc call 89 MC MS Q 4 [some (.ref r_0), some (.int (nI a_1))] [] h z c s) : ip sc call 89 MC MS Q 0 [some (.ref r_0), some (.int (nI a_1))] [] h z c s := by
  refine jp_load (pc2 := 1) (n := 1) rfl rfl rfl rfl ?_
  exact jp_if0 (pc2 := 4) rfl rfl (fun q => K1 ((nI_ltI c1 (by decide)).mp q)) (fun q => K2 (fun r => q ((nI_ltI c1 (by decide)).mpr r)))
theorem c89_4 {r_0 : Nat} {a_1 : Nat} (c1 : a_1 < 2147483648) (K1 : a_1 < 4 → ip sc call 89 MC MS Q 11 [some (.ref r_0), some (.int (nI a_1))] [] h z c s) (K2 : ¬ (a_1 < 4) → ip sc call 89 MC MS Q 9 [some (.ref r_0), some (.int (nI a_1))] [] h z c s) : ip sc call 89 MC MS Q 4 [some (.ref r_0), some (.int (nI a_1))] [] h z c s := by
  refine jp_load (pc2 := 5) (n := 1) rfl rfl rfl rfl ?_
  refine jp_con (pc2 := 6) (v := (.int (nI 4))) rfl rfl rfl ?_
  exact jp_icmp (pc2 := 9) rfl rfl (fun q => K1 ((nI_ltI c1 (by decide)).mp q)) (fun q => K2 (fun r => q ((nI_ltI c1 (by decide)).mpr r)))
theorem c89_9 {o_0 : Option Value} {o_1 : Option Value} (q1 : Q (some (.int (nI 0))) h z)  : ip sc call 89 MC MS Q 9 [o_0, o_1] [] h z c s := by
  refine jp_con (pc2 := 10) (v := (.int (nI 0))) rfl rfl rfl ?_
  exact ip_iret (st := []) rfl rfl rfl q1
theorem c89_11 {r_0 : Nat} {a_1 : Nat} {fs1 : List Value} {q_fs1_1 : Nat} {n4 : Nat} {f5 : Nat → Option Nat} {q9 : Nat} (e2 : h r_0 = some (.inr (8, fs1))) (e3 : fs1[1]? = some (.ref q_fs1_1)) (e6 : h q_fs1_1 = some (.inl (6, n4, .inr (.inr (.inr (.inr f5)))))) (b7 : a_1 < n4) (c8 : n4 < 2147483648) (e10 : f5 a_1 = some q9) (K : ip sc call 89 MC MS Q 33 [some (.ref r_0), some (.int (nI a_1))] [] h z c s) : ip sc call 89 MC MS Q 11 [some (.ref r_0), some (.int (nI a_1))] [] h z c s := by
  refine jp_load (pc2 := 12) (n := 0) rfl rfl rfl rfl ?_
  refine jp_getf (pc2 := 15) rfl rfl e2 e3 ?_
  refine jp_load (pc2 := 16) (n := 1) rfl rfl rfl rfl ?_
  refine jp_aald (pc2 := 17) rfl rfl e6 (by decide) (vp_in_nI b7 c8) ((congrArg f5 (nI_clamp (Nat.lt_trans b7 c8))).trans e10) ?_
  exact ip_nonnull rfl K
theorem c89_11n {r_0 : Nat} {a_1 : Nat} {fs1 : List Value} {q_fs1_1 : Nat} {n4 : Nat} {f5 : Nat → Option Nat} (e2 : h r_0 = some (.inr (8, fs1))) (e3 : fs1[1]? = some (.ref q_fs1_1)) (e6 : h q_fs1_1 = some (.inl (6, n4, .inr (.inr (.inr (.inr f5)))))) (b7 : a_1 < n4) (c8 : n4 < 2147483648) (e9 : f5 a_1 = none) (K : ip sc call 89 MC MS Q 20 [some (.ref r_0), some (.int (nI a_1))] [] h z c s) : ip sc call 89 MC MS Q 11 [some (.ref r_0), some (.int (nI a_1))] [] h z c s := by
  refine jp_load (pc2 := 12) (n := 0) rfl rfl rfl rfl ?_
  refine jp_getf (pc2 := 15) rfl rfl e2 e3 ?_
  refine jp_load (pc2 := 16) (n := 1) rfl rfl rfl rfl ?_
  refine jp_aaldn (pc2 := 17) rfl rfl e6 (by decide) (vp_in_nI b7 c8) ((congrArg f5 (nI_clamp (Nat.lt_trans b7 c8))).trans e9) ?_
  exact jp_isnull (pc2 := 20) rfl rfl K
theorem c89_32 {r_0 : Nat} {a_1 : Nat} {sr_0 : Nat} {sa_1 : Nat} {sr_2 : Nat} {n1 : Nat} {f2 : Nat → Option Nat} {fs6 : List Value} {g8 : Nat → Option Nat} (e3 : h sr_0 = some (.inl (6, n1, .inr (.inr (.inr (.inr f2)))))) (b4 : sa_1 < n1) (c5 : n1 < 2147483648) (e7 : h sr_2 = some (.inr (4, fs6))) (d9 : va_up f2 sa_1 (some sr_2) = g8) (K : ip sc call 89 MC MS Q 33 [some (.ref r_0), some (.int (nI a_1))] [] (hup h sr_0 (.inl (6, n1, .inr (.inr (.inr (.inr g8)))))) z c s) : ip sc call 89 MC MS Q 32 [some (.ref r_0), some (.int (nI a_1))] [(.ref sr_2), (.int (nI sa_1)), (.ref sr_0)] h z c s := by
  refine jp_aast (pc2 := 33) rfl rfl e3 (by decide) e7 (vp_in_nI b4 c5) ?_
  rw [(nI_clamp (Nat.lt_trans b4 c5))]
  rw [d9]
  exact K
theorem c89_49 {o_0 : Option Value} {o_1 : Option Value} (q1 : Q (some (.int (nI 1))) h z)  : ip sc call 89 MC MS Q 49 [o_0, o_1] [] h z c s := by
  refine jp_con (pc2 := 50) (v := (.int (nI 1))) rfl rfl rfl ?_
  exact ip_iret (st := []) rfl rfl rfl q1
theorem c90_0 {r_0 : Nat} {a_1 : Nat} (c1 : a_1 < 2147483648) (K1 : a_1 < 0 → ip sc call 90 MC MS Q 18 [some (.ref r_0), some (.int (nI a_1))] [] h z c s) (K2 : ¬ (a_1 < 0) → ip sc call 90 MC MS Q 4 [some (.ref r_0), some (.int (nI a_1))] [] h z c s) : ip sc call 90 MC MS Q 0 [some (.ref r_0), some (.int (nI a_1))] [] h z c s := by
  refine jp_load (pc2 := 1) (n := 1) rfl rfl rfl rfl ?_
  exact jp_if0 (pc2 := 4) rfl rfl (fun q => K1 ((nI_ltI c1 (by decide)).mp q)) (fun q => K2 (fun r => q ((nI_ltI c1 (by decide)).mpr r)))
theorem c90_4 {r_0 : Nat} {a_1 : Nat} (c1 : a_1 < 2147483648) (K1 : 4 ≤ a_1 → ip sc call 90 MC MS Q 18 [some (.ref r_0), some (.int (nI a_1))] [] h z c s) (K2 : ¬ (4 ≤ a_1) → ip sc call 90 MC MS Q 9 [some (.ref r_0), some (.int (nI a_1))] [] h z c s) : ip sc call 90 MC MS Q 4 [some (.ref r_0), some (.int (nI a_1))] [] h z c s := by
  refine jp_load (pc2 := 5) (n := 1) rfl rfl rfl rfl ?_
  refine jp_con (pc2 := 6) (v := (.int (nI 4))) rfl rfl rfl ?_
  exact jp_icmp (pc2 := 9) rfl rfl (fun q => K1 ((nI_leI (by decide) c1).mp q)) (fun q => K2 (fun r => q ((nI_leI (by decide) c1).mpr r)))
theorem c90_9 {r_0 : Nat} {a_1 : Nat} {fs1 : List Value} {q_fs1_1 : Nat} {n4 : Nat} {f5 : Nat → Option Nat} {q9 : Nat} (e2 : h r_0 = some (.inr (8, fs1))) (e3 : fs1[1]? = some (.ref q_fs1_1)) (e6 : h q_fs1_1 = some (.inl (6, n4, .inr (.inr (.inr (.inr f5)))))) (b7 : a_1 < n4) (c8 : n4 < 2147483648) (e10 : f5 a_1 = some q9) (K : ip sc call 90 MC MS Q 20 [some (.ref r_0), some (.int (nI a_1))] [] h z c s) : ip sc call 90 MC MS Q 9 [some (.ref r_0), some (.int (nI a_1))] [] h z c s := by
  refine jp_load (pc2 := 10) (n := 0) rfl rfl rfl rfl ?_
  refine jp_getf (pc2 := 13) rfl rfl e2 e3 ?_
  refine jp_load (pc2 := 14) (n := 1) rfl rfl rfl rfl ?_
  refine jp_aald (pc2 := 15) rfl rfl e6 (by decide) (vp_in_nI b7 c8) ((congrArg f5 (nI_clamp (Nat.lt_trans b7 c8))).trans e10) ?_
  exact ip_nonnull rfl K
theorem c90_9n {r_0 : Nat} {a_1 : Nat} {fs1 : List Value} {q_fs1_1 : Nat} {n4 : Nat} {f5 : Nat → Option Nat} (e2 : h r_0 = some (.inr (8, fs1))) (e3 : fs1[1]? = some (.ref q_fs1_1)) (e6 : h q_fs1_1 = some (.inl (6, n4, .inr (.inr (.inr (.inr f5)))))) (b7 : a_1 < n4) (c8 : n4 < 2147483648) (e9 : f5 a_1 = none) (K : ip sc call 90 MC MS Q 18 [some (.ref r_0), some (.int (nI a_1))] [] h z c s) : ip sc call 90 MC MS Q 9 [some (.ref r_0), some (.int (nI a_1))] [] h z c s := by
  refine jp_load (pc2 := 10) (n := 0) rfl rfl rfl rfl ?_
  refine jp_getf (pc2 := 13) rfl rfl e2 e3 ?_
  refine jp_load (pc2 := 14) (n := 1) rfl rfl rfl rfl ?_
  refine jp_aaldn (pc2 := 15) rfl rfl e6 (by decide) (vp_in_nI b7 c8) ((congrArg f5 (nI_clamp (Nat.lt_trans b7 c8))).trans e9) ?_
  exact jp_isnull (pc2 := 18) rfl rfl K
theorem c90_18 {o_0 : Option Value} {o_1 : Option Value} (q1 : Q (some (.int (nI 0))) h z)  : ip sc call 90 MC MS Q 18 [o_0, o_1] [] h z c s := by
  refine jp_con (pc2 := 19) (v := (.int (nI 0))) rfl rfl rfl ?_
  exact ip_iret (st := []) rfl rfl rfl q1
theorem c90_20 {r_0 : Nat} {a_1 : Nat} {fs1 : List Value} {q_fs1_0 : Nat} {q_fs1_1 : Nat} {n5 : Nat} {f6 : Nat → Option Nat} {q10 : Nat} {fs12 : List Value} {P : ipQ} (e2 : h r_0 = some (.inr (8, fs1))) (e3 : fs1[0]? = some (.ref q_fs1_0)) (e4 : fs1[1]? = some (.ref q_fs1_1)) (e7 : h q_fs1_1 = some (.inl (6, n5, .inr (.inr (.inr (.inr f6)))))) (b8 : a_1 < n5) (c9 : n5 < 2147483648) (e11 : f6 a_1 = some q10) (e13 : h q_fs1_0 = some (.inr (0, fs12))) (m14 : c ≤ MC) (m15 : s ≤ MS) (hc : call 5 [(.ref q_fs1_0), (.ref q10)] h z 0 0 P) (K : ∀ (o : Option Value) (h2 : HP) (z2 : Nat), P o h2 z2 → ip sc call 90 MC MS Q 33 [some (.ref r_0), some (.int (nI a_1))] (o.toList ++ []) h2 z2 c s) : ip sc call 90 MC MS Q 20 [some (.ref r_0), some (.int (nI a_1))] [] h z c s := by
  refine jp_load (pc2 := 21) (n := 0) rfl rfl rfl rfl ?_
  refine jp_getf (pc2 := 24) rfl rfl e2 e3 ?_
  refine jp_load (pc2 := 25) (n := 0) rfl rfl rfl rfl ?_
  refine jp_getf (pc2 := 28) rfl rfl e2 e4 ?_
  refine jp_load (pc2 := 29) (n := 1) rfl rfl rfl rfl ?_
  refine jp_aald (pc2 := 30) rfl rfl e7 (by decide) (vp_in_nI b8 c9) ((congrArg f6 (nI_clamp (Nat.lt_trans b8 c9))).trans e11) ?_
  exact jp_virt0 (pc2 := 33) (As := [(.ref q10)]) (rest := []) rfl rfl rfl (Nat.le_of_ble_eq_true rfl) e13 m14 m15 hc rfl K
theorem c90_33 {o_0 : Option Value} {o_1 : Option Value} (q1 : Q (some (.int (nI 1))) h z)  : ip sc call 90 MC MS Q 33 [o_0, o_1] [] h z c s := by
  refine jp_con (pc2 := 34) (v := (.int (nI 1))) rfl rfl rfl ?_
  exact ip_iret (st := []) rfl rfl rfl q1
theorem c151_0 {a_0 : Nat} {o_1 : Option Value} (d1 : 1 ≤ a_0) (K1 : (0 : Int32) < (((nI a_0) ^^^ ((-1))) &&& (nI (a_0 - 1))) → ip sc call 151 MC MS Q 17 [some (.int (((nI a_0) ^^^ ((-1))) &&& (nI (a_0 - 1)))), o_1] [] h z c s) (K2 : ¬ ((0 : Int32) < (((nI a_0) ^^^ ((-1))) &&& (nI (a_0 - 1)))) → ip sc call 151 MC MS Q 12 [some (.int (((nI a_0) ^^^ ((-1))) &&& (nI (a_0 - 1)))), o_1] [] h z c s) : ip sc call 151 MC MS Q 0 [some (.int (nI a_0)), o_1] [] h z c s := by
  refine jp_load (pc2 := 1) (n := 0) rfl rfl rfl rfl ?_
  refine jp_con (pc2 := 2) (v := (.int ((-1)))) rfl rfl rfl ?_
  refine jp_bin (pc2 := 3) (v := (nI a_0) ^^^ ((-1))) rfl rfl rfl ?_
  refine jp_load (pc2 := 4) (n := 0) rfl rfl rfl rfl ?_
  refine jp_con (pc2 := 5) (v := (.int (nI 1))) rfl rfl rfl ?_
  refine jp_bin (pc2 := 6) (v := nI (a_0 - 1)) rfl rfl (congrArg some (pk_sub d1)) ?_
  refine jp_bin (pc2 := 7) (v := ((nI a_0) ^^^ ((-1))) &&& (nI (a_0 - 1))) rfl rfl rfl ?_
  refine jp_store (pc2 := 8) (n := 0) rfl rfl ⟨rfl, rfl⟩ rfl (Nat.le_of_ble_eq_true rfl) ?_
  refine jp_load (pc2 := 9) (n := 0) rfl rfl rfl rfl ?_
  exact jp_if0 (pc2 := 12) rfl rfl K1 K2
theorem c151_12 {a_0 : Nat} {o_1 : Option Value} (q1 : Q (some (.int ((nI a_0) &&& (nI 32)))) h z)  : ip sc call 151 MC MS Q 12 [some (.int (nI a_0)), o_1] [] h z c s := by
  refine jp_load (pc2 := 13) (n := 0) rfl rfl rfl rfl ?_
  refine jp_con (pc2 := 15) (v := (.int (nI 32))) rfl rfl rfl ?_
  refine jp_bin (pc2 := 16) (v := (nI a_0) &&& (nI 32)) rfl rfl rfl ?_
  exact ip_iret (st := []) rfl rfl rfl q1
theorem c151_17 {a_0 : Nat} {o_1 : Option Value} (c1 : a_0 < 2147483648) (K1 : a_0 ≤ 65536 → ip sc call 151 MC MS Q 34 [some (.int (nI a_0)), some (.int (nI 1))] [] h z c s) (K2 : ¬ (a_0 ≤ 65536) → ip sc call 151 MC MS Q 26 [some (.int (nI a_0)), some (.int (nI 1))] [] h z c s) : ip sc call 151 MC MS Q 17 [some (.int (nI a_0)), o_1] [] h z c s := by
  refine jp_con (pc2 := 18) (v := (.int (nI 1))) rfl rfl rfl ?_
  refine jp_store (pc2 := 19) (n := 1) rfl rfl ⟨rfl, rfl⟩ rfl (Nat.le_of_ble_eq_true rfl) ?_
  refine jp_load (pc2 := 20) (n := 0) rfl rfl rfl rfl ?_
  refine jp_con (pc2 := 23) (v := (.int (nI 65536))) rfl rfl rfl ?_
  exact jp_icmp (pc2 := 26) rfl rfl (fun q => K1 ((nI_leI c1 (by decide)).mp q)) (fun q => K2 (fun r => q ((nI_leI c1 (by decide)).mpr r)))
theorem c151_26 {a_0 : Nat} {a_1 : Nat} {x1 : Int32} (w2 : ((nI a_0).toUInt32 >>> ((nI 16).toUInt32 &&& Int32.toUInt32 31)).toInt32 = x1) (K : ip sc call 151 MC MS Q 34 [some (.int x1), some (.int (nI (a_1 + 16)))] [] h z c s) : ip sc call 151 MC MS Q 26 [some (.int (nI a_0)), some (.int (nI a_1))] [] h z c s := by
  refine jp_iinc (pc2 := 29) (n := 1) (v := nI (a_1 + 16)) rfl rfl rfl (nI_add _ 16) rfl ?_
  refine jp_load (pc2 := 30) (n := 0) rfl rfl rfl rfl ?_
  refine jp_con (pc2 := 32) (v := (.int (nI 16))) rfl rfl rfl ?_
  refine jp_bin (pc2 := 33) (v := x1) rfl rfl (congrArg some w2) ?_
  refine jp_store (pc2 := 34) (n := 0) rfl rfl ⟨rfl, rfl⟩ rfl (Nat.le_of_ble_eq_true rfl) ?_
  exact K
theorem c151_34 {a_0 : Nat} {a_1 : Nat} (c1 : a_0 < 2147483648) (K1 : a_0 ≤ 256 → ip sc call 151 MC MS Q 49 [some (.int (nI a_0)), some (.int (nI a_1))] [] h z c s) (K2 : ¬ (a_0 ≤ 256) → ip sc call 151 MC MS Q 41 [some (.int (nI a_0)), some (.int (nI a_1))] [] h z c s) : ip sc call 151 MC MS Q 34 [some (.int (nI a_0)), some (.int (nI a_1))] [] h z c s := by
  refine jp_load (pc2 := 35) (n := 0) rfl rfl rfl rfl ?_
  refine jp_con (pc2 := 38) (v := (.int (nI 256))) rfl rfl rfl ?_
  exact jp_icmp (pc2 := 41) rfl rfl (fun q => K1 ((nI_leI c1 (by decide)).mp q)) (fun q => K2 (fun r => q ((nI_leI c1 (by decide)).mpr r)))
theorem c151_41 {a_0 : Nat} {a_1 : Nat} {x1 : Int32} (w2 : ((nI a_0).toUInt32 >>> ((nI 8).toUInt32 &&& Int32.toUInt32 31)).toInt32 = x1) (K : ip sc call 151 MC MS Q 49 [some (.int x1), some (.int (nI (a_1 + 8)))] [] h z c s) : ip sc call 151 MC MS Q 41 [some (.int (nI a_0)), some (.int (nI a_1))] [] h z c s := by
  refine jp_iinc (pc2 := 44) (n := 1) (v := nI (a_1 + 8)) rfl rfl rfl (nI_add _ 8) rfl ?_
  refine jp_load (pc2 := 45) (n := 0) rfl rfl rfl rfl ?_
  refine jp_con (pc2 := 47) (v := (.int (nI 8))) rfl rfl rfl ?_
  refine jp_bin (pc2 := 48) (v := x1) rfl rfl (congrArg some w2) ?_
  refine jp_store (pc2 := 49) (n := 0) rfl rfl ⟨rfl, rfl⟩ rfl (Nat.le_of_ble_eq_true rfl) ?_
  exact K
theorem c151_49 {a_0 : Nat} {a_1 : Nat} (c1 : a_0 < 2147483648) (K1 : a_0 ≤ 16 → ip sc call 151 MC MS Q 62 [some (.int (nI a_0)), some (.int (nI a_1))] [] h z c s) (K2 : ¬ (a_0 ≤ 16) → ip sc call 151 MC MS Q 55 [some (.int (nI a_0)), some (.int (nI a_1))] [] h z c s) : ip sc call 151 MC MS Q 49 [some (.int (nI a_0)), some (.int (nI a_1))] [] h z c s := by
  refine jp_load (pc2 := 50) (n := 0) rfl rfl rfl rfl ?_
  refine jp_con (pc2 := 52) (v := (.int (nI 16))) rfl rfl rfl ?_
  exact jp_icmp (pc2 := 55) rfl rfl (fun q => K1 ((nI_leI c1 (by decide)).mp q)) (fun q => K2 (fun r => q ((nI_leI c1 (by decide)).mpr r)))
theorem c151_55 {a_0 : Nat} {a_1 : Nat} {x1 : Int32} (w2 : ((nI a_0).toUInt32 >>> ((nI 4).toUInt32 &&& Int32.toUInt32 31)).toInt32 = x1) (K : ip sc call 151 MC MS Q 62 [some (.int x1), some (.int (nI (a_1 + 4)))] [] h z c s) : ip sc call 151 MC MS Q 55 [some (.int (nI a_0)), some (.int (nI a_1))] [] h z c s := by
  refine jp_iinc (pc2 := 58) (n := 1) (v := nI (a_1 + 4)) rfl rfl rfl (nI_add _ 4) rfl ?_
  refine jp_load (pc2 := 59) (n := 0) rfl rfl rfl rfl ?_
  refine jp_con (pc2 := 60) (v := (.int (nI 4))) rfl rfl rfl ?_
  refine jp_bin (pc2 := 61) (v := x1) rfl rfl (congrArg some w2) ?_
  refine jp_store (pc2 := 62) (n := 0) rfl rfl ⟨rfl, rfl⟩ rfl (Nat.le_of_ble_eq_true rfl) ?_
  exact K
theorem c151_62 {a_0 : Nat} {a_1 : Nat} (c1 : a_0 < 2147483648) (K1 : a_0 ≤ 4 → ip sc call 151 MC MS Q 74 [some (.int (nI a_0)), some (.int (nI a_1))] [] h z c s) (K2 : ¬ (a_0 ≤ 4) → ip sc call 151 MC MS Q 67 [some (.int (nI a_0)), some (.int (nI a_1))] [] h z c s) : ip sc call 151 MC MS Q 62 [some (.int (nI a_0)), some (.int (nI a_1))] [] h z c s := by
  refine jp_load (pc2 := 63) (n := 0) rfl rfl rfl rfl ?_
  refine jp_con (pc2 := 64) (v := (.int (nI 4))) rfl rfl rfl ?_
  exact jp_icmp (pc2 := 67) rfl rfl (fun q => K1 ((nI_leI c1 (by decide)).mp q)) (fun q => K2 (fun r => q ((nI_leI c1 (by decide)).mpr r)))
theorem c151_67 {a_0 : Nat} {a_1 : Nat} {x1 : Int32} (w2 : ((nI a_0).toUInt32 >>> ((nI 2).toUInt32 &&& Int32.toUInt32 31)).toInt32 = x1) (K : ip sc call 151 MC MS Q 74 [some (.int x1), some (.int (nI (a_1 + 2)))] [] h z c s) : ip sc call 151 MC MS Q 67 [some (.int (nI a_0)), some (.int (nI a_1))] [] h z c s := by
  refine jp_iinc (pc2 := 70) (n := 1) (v := nI (a_1 + 2)) rfl rfl rfl (nI_add _ 2) rfl ?_
  refine jp_load (pc2 := 71) (n := 0) rfl rfl rfl rfl ?_
  refine jp_con (pc2 := 72) (v := (.int (nI 2))) rfl rfl rfl ?_
  refine jp_bin (pc2 := 73) (v := x1) rfl rfl (congrArg some w2) ?_
  refine jp_store (pc2 := 74) (n := 0) rfl rfl ⟨rfl, rfl⟩ rfl (Nat.le_of_ble_eq_true rfl) ?_
  exact K
theorem c151_74 {a_0 : Nat} {a_1 : Nat} {x1 : Int32} (w2 : ((nI a_0).toUInt32 >>> ((nI 1).toUInt32 &&& Int32.toUInt32 31)).toInt32 = x1) (q3 : Q (some (.int ((nI a_1) + x1))) h z)  : ip sc call 151 MC MS Q 74 [some (.int (nI a_0)), some (.int (nI a_1))] [] h z c s := by
  refine jp_load (pc2 := 75) (n := 1) rfl rfl rfl rfl ?_
  refine jp_load (pc2 := 76) (n := 0) rfl rfl rfl rfl ?_
  refine jp_con (pc2 := 77) (v := (.int (nI 1))) rfl rfl rfl ?_
  refine jp_bin (pc2 := 78) (v := x1) rfl rfl (congrArg some w2) ?_
  refine jp_bin (pc2 := 79) (v := (nI a_1) + x1) rfl rfl rfl ?_
  exact ip_iret (st := []) rfl rfl rfl q3
end BLK
