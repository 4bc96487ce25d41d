/-! straight stretches of bytecode, printed by wip/whole/gen_blk.py -/
section BLK
variable {sc : ipSc} {call : ipCall} {MC MS : Nat} {Q : ipQ} {h : HP} {z c s : Nat}
-- c14_0 by hand: a making: raw
theorem c15_0 {r_0 : Nat} {r_1 : Nat} {a_2 : Nat} {o_3 : Option Value} {o_4 : Option Value} {o_5 : Option Value} {fs1 : List Value} {P : ipQ} (e2 : h r_0 = some (.inr (3, fs1))) (m3 : c ≤ MC) (m4 : s ≤ MS) (hc : call 16 [(.ref r_0), (.ref r_1), (.int (nI a_2))] h z 0 0 P) (K : ∀ (o : Option Value) (h2 : HP) (z2 : Nat), P o h2 z2 → ip sc call 15 MC MS Q 6 [some (.ref r_0), some (.ref r_1), some (.int (nI a_2)), o_3, o_4, o_5] (o.toList ++ []) h2 z2 c s) : ip sc call 15 MC MS Q 0 [some (.ref r_0), some (.ref r_1), some (.int (nI a_2)), o_3, o_4, o_5] [] h z c s := by
  refine jp_load (pc2 := 1) (n := 0) rfl rfl rfl rfl ?_
  refine jp_load (pc2 := 2) (n := 1) rfl rfl rfl rfl ?_
  refine jp_load (pc2 := 3) (n := 2) rfl rfl rfl rfl ?_
  exact jp_virt0 (pc2 := 6) (As := [(.ref r_1), (.int (nI a_2))]) (rest := []) rfl rfl rfl (Nat.le_of_ble_eq_true rfl) e2 m3 m4 hc rfl K
theorem c15_6 {r_0 : Nat} {r_1 : Nat} {o_2 : Option Value} {o_3 : Option Value} {o_4 : Option Value} {o_5 : Option Value} {fs1 : List Value} {P : ipQ} (e2 : h r_0 = some (.inr (3, fs1))) (m3 : c ≤ MC) (m4 : s ≤ MS) (hc : call 17 [(.ref r_0), (.ref r_1)] h z 0 0 P) (K : ∀ (o : Option Value) (h2 : HP) (z2 : Nat), P o h2 z2 → ip sc call 15 MC MS Q 11 [some (.ref r_0), some (.ref r_1), o_2, o_3, o_4, o_5] (o.toList ++ []) h2 z2 c s) : ip sc call 15 MC MS Q 6 [some (.ref r_0), some (.ref r_1), o_2, o_3, o_4, o_5] [] h z c s := by
  refine jp_load (pc2 := 7) (n := 0) rfl rfl rfl rfl ?_
  refine jp_load (pc2 := 8) (n := 1) rfl rfl rfl rfl ?_
  exact jp_virt0 (pc2 := 11) (As := [(.ref r_1)]) (rest := []) rfl rfl rfl (Nat.le_of_ble_eq_true rfl) e2 m3 m4 hc rfl K
theorem c15_11 {r_0 : Nat} {r_1 : Nat} {o_2 : Option Value} {o_3 : Option Value} {o_4 : Option Value} {o_5 : Option Value} (k1 : ip2 o_2 = false) (K : ip sc call 15 MC MS Q 16 [some (.ref r_0), some (.ref r_1), o_2, some (.int (nI 1)), some (.int (nI 0)), o_5] [] h z c s) : ip sc call 15 MC MS Q 11 [some (.ref r_0), some (.ref r_1), o_2, o_3, o_4, o_5] [] h z c s := by
  refine jp_con (pc2 := 12) (v := (.int (nI 1))) rfl rfl rfl ?_
  refine jp_store (pc2 := 13) (n := 3) rfl rfl ⟨rfl, rfl⟩ k1 (Nat.le_of_ble_eq_true rfl) ?_
  refine jp_con (pc2 := 14) (v := (.int (nI 0))) rfl rfl rfl ?_
  refine jp_store (pc2 := 16) (n := 4) rfl rfl ⟨rfl, rfl⟩ rfl (Nat.le_of_ble_eq_true rfl) ?_
  exact K
theorem c15_16 {r_0 : Nat} {r_1 : Nat} {o_2 : Option Value} {a_3 : Nat} {a_4 : Nat} {o_5 : Option Value} (c1 : a_4 < 2147483648) (K1 : 2 ≤ a_4 → ip sc call 15 MC MS Q 77 [some (.ref r_0), some (.ref r_1), o_2, some (.int (nI a_3)), some (.int (nI a_4)), o_5] [] h z c s) (K2 : ¬ (2 ≤ a_4) → ip sc call 15 MC MS Q 22 [some (.ref r_0), some (.ref r_1), o_2, some (.int (nI a_3)), some (.int (nI a_4)), o_5] [] h z c s) : ip sc call 15 MC MS Q 16 [some (.ref r_0), some (.ref r_1), o_2, some (.int (nI a_3)), some (.int (nI a_4)), o_5] [] h z c s := by
  refine jp_load (pc2 := 18) (n := 4) rfl rfl rfl rfl ?_
  refine jp_con (pc2 := 19) (v := (.int (nI 2))) rfl rfl rfl ?_
  exact jp_icmp (pc2 := 22) rfl rfl (fun q => K1 ((nI_leI (by decide) c1).mp q)) (fun q => K2 (fun r => q ((nI_leI (by decide) c1).mpr r)))
theorem c15_22 {r_0 : Nat} {r_1 : Nat} {o_2 : Option Value} {a_3 : Nat} {a_4 : Nat} {o_5 : Option Value} (c1 : a_3 < 2147483648) (K1 : a_3 = 0 → ip sc call 15 MC MS Q 77 [some (.ref r_0), some (.ref r_1), o_2, some (.int (nI a_3)), some (.int (nI a_4)), o_5] [] h z c s) (K2 : ¬ (a_3 = 0) → ip sc call 15 MC MS Q 26 [some (.ref r_0), some (.ref r_1), o_2, some (.int (nI a_3)), some (.int (nI a_4)), o_5] [] h z c s) : ip sc call 15 MC MS Q 22 [some (.ref r_0), some (.ref r_1), o_2, some (.int (nI a_3)), some (.int (nI a_4)), o_5] [] h z c s := by
  refine jp_load (pc2 := 23) (n := 3) rfl rfl rfl rfl ?_
  exact jp_if0 (pc2 := 26) rfl rfl (fun q => K1 ((nI_eq c1 (by decide)).mp q)) (fun q => K2 (fun r => q ((nI_eq c1 (by decide)).mpr r)))
theorem c15_26 {r_0 : Nat} {r_1 : Nat} {o_2 : Option Value} {o_3 : Option Value} {a_4 : Nat} {o_5 : Option Value}  (K : ip sc call 15 MC MS Q 29 [some (.ref r_0), some (.ref r_1), o_2, o_3, some (.int (nI a_4)), some (.int (nI 0))] [] h z c s) : ip sc call 15 MC MS Q 26 [some (.ref r_0), some (.ref r_1), o_2, o_3, some (.int (nI a_4)), o_5] [] h z c s := by
  refine jp_con (pc2 := 27) (v := (.int (nI 0))) rfl rfl rfl ?_
  refine jp_store (pc2 := 29) (n := 5) rfl rfl ⟨rfl, rfl⟩ rfl (Nat.le_of_ble_eq_true rfl) ?_
  exact K
theorem c15_29 {r_0 : Nat} {r_1 : Nat} {o_2 : Option Value} {o_3 : Option Value} {a_4 : Nat} {a_5 : Nat} {fs1 : List Value} {v_fs1_9 : Nat} (e2 : h r_0 = some (.inr (3, fs1))) (e3 : fs1[9]? = some (.int (nI v_fs1_9))) (c4 : a_5 < 2147483648) (c5 : v_fs1_9 < 2147483648) (K1 : v_fs1_9 ≤ a_5 → ip sc call 15 MC MS Q 56 [some (.ref r_0), some (.ref r_1), o_2, o_3, some (.int (nI a_4)), some (.int (nI a_5))] [] h z c s) (K2 : ¬ (v_fs1_9 ≤ a_5) → ip sc call 15 MC MS Q 38 [some (.ref r_0), some (.ref r_1), o_2, o_3, some (.int (nI a_4)), some (.int (nI a_5))] [] h z c s) : ip sc call 15 MC MS Q 29 [some (.ref r_0), some (.ref r_1), o_2, o_3, some (.int (nI a_4)), some (.int (nI a_5))] [] h z c s := by
  refine jp_load (pc2 := 31) (n := 5) rfl rfl rfl rfl ?_
  refine jp_load (pc2 := 32) (n := 0) rfl rfl rfl rfl ?_
  refine jp_getf (pc2 := 35) rfl rfl e2 e3 ?_
  exact jp_icmp (pc2 := 38) rfl rfl (fun q => K1 ((nI_leI c5 c4).mp q)) (fun q => K2 (fun r => q ((nI_leI c5 c4).mpr r)))
theorem c15_38 {r_0 : Nat} {r_1 : Nat} {o_2 : Option Value} {o_3 : Option Value} {a_4 : Nat} {a_5 : Nat} {fs1 : List Value} {q_fs1_2 : Nat} {n4 : Nat} {f5 : Nat → Int32} {v9 : Nat} {P : ipQ} (e2 : h r_0 = some (.inr (3, fs1))) (e3 : fs1[2]? = some (.ref q_fs1_2)) (e6 : h q_fs1_2 = some (.inl (0, n4, .inl f5))) (b7 : a_5 < n4) (c8 : n4 < 2147483648) (e10 : f5 a_5 = nI v9) (m11 : c ≤ MC) (m12 : s ≤ MS) (hc : call 19 [(.ref r_0), (.ref r_1), (.int (nI v9))] h z 0 0 P) (K : ∀ (o : Option Value) (h2 : HP) (z2 : Nat), P o h2 z2 → ip sc call 15 MC MS Q 50 [some (.ref r_0), some (.ref r_1), o_2, o_3, some (.int (nI a_4)), some (.int (nI a_5))] (o.toList ++ []) h2 z2 c s) : ip sc call 15 MC MS Q 38 [some (.ref r_0), some (.ref r_1), o_2, o_3, some (.int (nI a_4)), some (.int (nI a_5))] [] h z c s := by
  refine jp_load (pc2 := 39) (n := 0) rfl rfl rfl rfl ?_
  refine jp_load (pc2 := 40) (n := 1) rfl rfl rfl rfl ?_
  refine jp_load (pc2 := 41) (n := 0) rfl rfl rfl rfl ?_
  refine jp_getf (pc2 := 44) rfl rfl e2 e3 ?_
  refine jp_load (pc2 := 46) (n := 5) rfl rfl rfl rfl ?_
  refine jp_iald (pc2 := 47) rfl rfl e6 (vp_in_nI b7 c8) ?_
  rw [(nI_clamp (Nat.lt_trans b7 c8))]
  rw [e10]
  exact jp_virt0 (pc2 := 50) (As := [(.ref r_1), (.int (nI v9))]) (rest := []) rfl rfl rfl (Nat.le_of_ble_eq_true rfl) e2 m11 m12 hc rfl K
theorem c15_50 {r_0 : Nat} {r_1 : Nat} {o_2 : Option Value} {o_3 : Option Value} {a_4 : Nat} {a_5 : Nat}  (K : ip sc call 15 MC MS Q 29 [some (.ref r_0), some (.ref r_1), o_2, o_3, some (.int (nI a_4)), some (.int (nI (a_5 + 1)))] [] h z c s) : ip sc call 15 MC MS Q 50 [some (.ref r_0), some (.ref r_1), o_2, o_3, some (.int (nI a_4)), some (.int (nI a_5))] [] h z c s := by
  refine jp_iinc (pc2 := 53) (n := 5) (v := nI (a_5 + 1)) rfl rfl rfl (nI_add _ 1) rfl ?_
  refine ip_goto rfl ?_
  exact K
theorem c15_56 {r_0 : Nat} {r_1 : Nat} {o_2 : Option Value} {o_3 : Option Value} {a_4 : Nat} {o_5 : Option Value} {fs1 : List Value} {P : ipQ} (e2 : h r_0 = some (.inr (3, fs1))) (m3 : c ≤ MC) (m4 : s ≤ MS) (hc : call 20 [(.ref r_0), (.ref r_1)] h z 0 0 P) (K : ∀ (o : Option Value) (h2 : HP) (z2 : Nat), P o h2 z2 → ip sc call 15 MC MS Q 61 [some (.ref r_0), some (.ref r_1), o_2, o_3, some (.int (nI a_4)), o_5] (o.toList ++ []) h2 z2 c s) : ip sc call 15 MC MS Q 56 [some (.ref r_0), some (.ref r_1), o_2, o_3, some (.int (nI a_4)), o_5] [] h z c s := by
  refine jp_load (pc2 := 57) (n := 0) rfl rfl rfl rfl ?_
  refine jp_load (pc2 := 58) (n := 1) rfl rfl rfl rfl ?_
  exact jp_virt0 (pc2 := 61) (As := [(.ref r_1)]) (rest := []) rfl rfl rfl (Nat.le_of_ble_eq_true rfl) e2 m3 m4 hc rfl K
theorem c15_61 {r_0 : Nat} {r_1 : Nat} {o_2 : Option Value} {o_3 : Option Value} {a_4 : Nat} {o_5 : Option Value} {fs1 : List Value} {P : ipQ} (e2 : h r_0 = some (.inr (3, fs1))) (m3 : c ≤ MC) (m4 : s ≤ MS) (hc : call 24 [(.ref r_0), (.ref r_1)] h z 0 0 P) (K : ∀ (o : Option Value) (h2 : HP) (z2 : Nat), P o h2 z2 → ip sc call 15 MC MS Q 66 [some (.ref r_0), some (.ref r_1), o_2, o_3, some (.int (nI a_4)), o_5] (o.toList ++ []) h2 z2 c s) : ip sc call 15 MC MS Q 61 [some (.ref r_0), some (.ref r_1), o_2, o_3, some (.int (nI a_4)), o_5] [] h z c s := by
  refine jp_load (pc2 := 62) (n := 0) rfl rfl rfl rfl ?_
  refine jp_load (pc2 := 63) (n := 1) rfl rfl rfl rfl ?_
  exact jp_virt0 (pc2 := 66) (As := [(.ref r_1)]) (rest := []) rfl rfl rfl (Nat.le_of_ble_eq_true rfl) e2 m3 m4 hc rfl K
theorem c15_66 {r_0 : Nat} {r_1 : Nat} {o_2 : Option Value} {o_3 : Option Value} {a_4 : Nat} {o_5 : Option Value} {fs1 : List Value} {P : ipQ} (e2 : h r_0 = some (.inr (3, fs1))) (m3 : c ≤ MC) (m4 : s ≤ MS) (hc : call 18 [(.ref r_0)] h z 0 0 P) (K : ∀ (o : Option Value) (h2 : HP) (z2 : Nat), P o h2 z2 → ip sc call 15 MC MS Q 70 [some (.ref r_0), some (.ref r_1), o_2, o_3, some (.int (nI a_4)), o_5] (o.toList ++ []) h2 z2 c s) : ip sc call 15 MC MS Q 66 [some (.ref r_0), some (.ref r_1), o_2, o_3, some (.int (nI a_4)), o_5] [] h z c s := by
  refine jp_load (pc2 := 67) (n := 0) rfl rfl rfl rfl ?_
  exact jp_virt0 (pc2 := 70) (As := []) (rest := []) rfl rfl rfl (Nat.le_of_ble_eq_true rfl) e2 m3 m4 hc rfl K
theorem c15_70 {r_0 : Nat} {r_1 : Nat} {o_2 : Option Value} {o_3 : Option Value} {a_4 : Nat} {o_5 : Option Value} {sa_0 : Nat} (k1 : ip2 o_2 = false) (K : ip sc call 15 MC MS Q 16 [some (.ref r_0), some (.ref r_1), o_2, some (.int (nI sa_0)), some (.int (nI (a_4 + 1))), o_5] [] h z c s) : ip sc call 15 MC MS Q 70 [some (.ref r_0), some (.ref r_1), o_2, o_3, some (.int (nI a_4)), o_5] [(.int (nI sa_0))] h z c s := by
  refine jp_store (pc2 := 71) (n := 3) rfl rfl ⟨rfl, rfl⟩ k1 (Nat.le_of_ble_eq_true rfl) ?_
  refine jp_iinc (pc2 := 74) (n := 4) (v := nI (a_4 + 1)) rfl rfl rfl (nI_add _ 1) rfl ?_
  refine ip_goto rfl ?_
  exact K
theorem c15_77 {r_0 : Nat} {o_1 : Option Value} {o_2 : Option Value} {o_3 : Option Value} {o_4 : Option Value} {o_5 : Option Value} {fs1 : List Value} {P : ipQ} (e2 : h r_0 = some (.inr (3, fs1))) (m3 : c ≤ MC) (m4 : s ≤ MS) (hc : call 26 [(.ref r_0)] h z 0 0 P) (K : ∀ (o : Option Value) (h2 : HP) (z2 : Nat), P o h2 z2 → ip sc call 15 MC MS Q 81 [some (.ref r_0), o_1, o_2, o_3, o_4, o_5] (o.toList ++ []) h2 z2 c s) : ip sc call 15 MC MS Q 77 [some (.ref r_0), o_1, o_2, o_3, o_4, o_5] [] h z c s := by
  refine jp_load (pc2 := 78) (n := 0) rfl rfl rfl rfl ?_
  exact jp_virt0 (pc2 := 81) (As := []) (rest := []) rfl rfl rfl (Nat.le_of_ble_eq_true rfl) e2 m3 m4 hc rfl K
theorem c15_81 {o_0 : Option Value} {o_1 : Option Value} {o_2 : Option Value} {o_3 : Option Value} {o_4 : Option Value} {o_5 : Option Value} (q1 : Q none h z)  : ip sc call 15 MC MS Q 81 [o_0, o_1, o_2, o_3, o_4, o_5] [] h z c s := by
  exact ip_vret (st := []) rfl rfl q1
theorem c16_0 {r_0 : Nat} {r_1 : Nat} {a_2 : Nat} {o_3 : Option Value} {fs1 : List Value} (e2 : h r_0 = some (.inr (3, fs1))) (l3 : fs1.length = 13) (K : ip sc call 16 MC MS Q 7 [some (.ref r_0), some (.ref r_1), some (.int (nI a_2)), some (.int (nI 0))] [] (hup h r_0 (.inr (3, (fs1.set 9 (.int (nI 0)))))) z c s) : ip sc call 16 MC MS Q 0 [some (.ref r_0), some (.ref r_1), some (.int (nI a_2)), o_3] [] h z c s := by
  refine jp_load (pc2 := 1) (n := 0) rfl rfl rfl rfl ?_
  refine jp_con (pc2 := 2) (v := (.int (nI 0))) rfl rfl rfl ?_
  refine jp_putf (pc2 := 5) rfl rfl e2 (ln_lt l3 (by decide)) ⟨rfl, rfl⟩ ?_
  refine jp_con (pc2 := 6) (v := (.int (nI 0))) rfl rfl rfl ?_
  refine jp_store (pc2 := 7) (n := 3) rfl rfl ⟨rfl, rfl⟩ rfl (Nat.le_of_ble_eq_true rfl) ?_
  exact K
theorem c16_7 {r_0 : Nat} {r_1 : Nat} {a_2 : Nat} {a_3 : Nat} {fs1 : List Value} {v_fs1_7 : Nat} (e2 : h r_1 = some (.inr (6, fs1))) (e3 : fs1[7]? = some (.int (nI v_fs1_7))) (c4 : a_3 < 2147483648) (c5 : v_fs1_7 < 2147483648) (K1 : v_fs1_7 ≤ a_3 → ip sc call 16 MC MS Q 50 [some (.ref r_0), some (.ref r_1), some (.int (nI a_2)), some (.int (nI a_3))] [] h z c s) (K2 : ¬ (v_fs1_7 ≤ a_3) → ip sc call 16 MC MS Q 15 [some (.ref r_0), some (.ref r_1), some (.int (nI a_2)), some (.int (nI a_3))] [] h z c s) : ip sc call 16 MC MS Q 7 [some (.ref r_0), some (.ref r_1), some (.int (nI a_2)), some (.int (nI a_3))] [] h z c s := by
  refine jp_load (pc2 := 8) (n := 3) rfl rfl rfl rfl ?_
  refine jp_load (pc2 := 9) (n := 1) rfl rfl rfl rfl ?_
  refine jp_getf (pc2 := 12) rfl rfl e2 e3 ?_
  exact jp_icmp (pc2 := 15) rfl rfl (fun q => K1 ((nI_leI c5 c4).mp q)) (fun q => K2 (fun r => q ((nI_leI c5 c4).mpr r)))
theorem c16_15 {r_0 : Nat} {r_1 : Nat} {a_2 : Nat} {a_3 : Nat}  (K1 : ¬ (((nI a_2) >>> ((nI a_3) &&& 31)) &&& (nI 1)) = (nI 1) → ip sc call 16 MC MS Q 44 [some (.ref r_0), some (.ref r_1), some (.int (nI a_2)), some (.int (nI a_3))] [] h z c s) (K2 : ¬ (¬ (((nI a_2) >>> ((nI a_3) &&& 31)) &&& (nI 1)) = (nI 1)) → ip sc call 16 MC MS Q 24 [some (.ref r_0), some (.ref r_1), some (.int (nI a_2)), some (.int (nI a_3))] [] h z c s) : ip sc call 16 MC MS Q 15 [some (.ref r_0), some (.ref r_1), some (.int (nI a_2)), some (.int (nI a_3))] [] h z c s := by
  refine jp_load (pc2 := 16) (n := 2) rfl rfl rfl rfl ?_
  refine jp_load (pc2 := 17) (n := 3) rfl rfl rfl rfl ?_
  refine jp_bin (pc2 := 18) (v := (nI a_2) >>> ((nI a_3) &&& 31)) rfl rfl rfl ?_
  refine jp_con (pc2 := 19) (v := (.int (nI 1))) rfl rfl rfl ?_
  refine jp_bin (pc2 := 20) (v := ((nI a_2) >>> ((nI a_3) &&& 31)) &&& (nI 1)) rfl rfl rfl ?_
  refine jp_con (pc2 := 21) (v := (.int (nI 1))) rfl rfl rfl ?_
  exact jp_icmp (pc2 := 24) rfl rfl K1 K2
theorem c16_24 {r_0 : Nat} {r_1 : Nat} {a_2 : Nat} {a_3 : Nat} {fs1 : List Value} {q_fs1_2 : Nat} {v_fs1_9 : Nat} {n5 : Nat} {f6 : Nat → Int32} {g10 : Nat → Int32} (e2 : h r_0 = some (.inr (3, fs1))) (e3 : fs1[2]? = some (.ref q_fs1_2)) (e4 : fs1[9]? = some (.int (nI v_fs1_9))) (e7 : h q_fs1_2 = some (.inl (0, n5, .inl f6))) (b8 : v_fs1_9 < n5) (c9 : n5 < 2147483648) (d11 : upd f6 v_fs1_9 (nI a_3) = g10) (n12 : r_0 ≠ q_fs1_2) (l13 : fs1.length = 13) (K : ip sc call 16 MC MS Q 44 [some (.ref r_0), some (.ref r_1), some (.int (nI a_2)), some (.int (nI a_3))] [] (hup (hup h q_fs1_2 (.inl (0, n5, .inl g10))) r_0 (.inr (3, (fs1.set 9 (.int (nI (v_fs1_9 + 1))))))) z c s) : ip sc call 16 MC MS Q 24 [some (.ref r_0), some (.ref r_1), some (.int (nI a_2)), some (.int (nI a_3))] [] h z c s := by
  refine jp_load (pc2 := 25) (n := 0) rfl rfl rfl rfl ?_
  refine jp_getf (pc2 := 28) rfl rfl e2 e3 ?_
  refine jp_load (pc2 := 29) (n := 0) rfl rfl rfl rfl ?_
  refine jp_getf (pc2 := 32) rfl rfl e2 e4 ?_
  refine jp_load (pc2 := 33) (n := 3) rfl rfl rfl rfl ?_
  refine jp_iast (pc2 := 34) rfl rfl e7 (vp_in_nI b8 c9) ?_
  rw [(nI_clamp (Nat.lt_trans b8 c9))]
  rw [d11]
  refine jp_load (pc2 := 35) (n := 0) rfl rfl rfl rfl ?_
  refine jp_dup (pc2 := 36) rfl rfl rfl ?_
  refine jp_getf (pc2 := 39) rfl rfl (hup_ne n12 e2) e4 ?_
  refine jp_con (pc2 := 40) (v := (.int (nI 1))) rfl rfl rfl ?_
  refine jp_bin (pc2 := 41) (v := nI (v_fs1_9 + 1)) rfl rfl (congrArg some (nI_add _ _)) ?_
  refine jp_putf (pc2 := 44) rfl rfl (hup_ne n12 e2) (ln_lt l13 (by decide)) ⟨rfl, rfl⟩ ?_
  exact K
theorem c16_44 {r_0 : Nat} {r_1 : Nat} {a_2 : Nat} {a_3 : Nat}  (K : ip sc call 16 MC MS Q 7 [some (.ref r_0), some (.ref r_1), some (.int (nI a_2)), some (.int (nI (a_3 + 1)))] [] h z c s) : ip sc call 16 MC MS Q 44 [some (.ref r_0), some (.ref r_1), some (.int (nI a_2)), some (.int (nI a_3))] [] h z c s := by
  refine jp_iinc (pc2 := 47) (n := 3) (v := nI (a_3 + 1)) rfl rfl rfl (nI_add _ 1) rfl ?_
  refine ip_goto rfl ?_
  exact K
theorem c16_50 {o_0 : Option Value} {o_1 : Option Value} {o_2 : Option Value} {o_3 : Option Value} (q1 : Q none h z)  : ip sc call 16 MC MS Q 50 [o_0, o_1, o_2, o_3] [] h z c s := by
  exact ip_vret (st := []) rfl rfl q1
theorem c17_0 {r_0 : Nat} {r_1 : Nat} {o_2 : Option Value}  (K : ip sc call 17 MC MS Q 2 [some (.ref r_0), some (.ref r_1), some (.int (nI 0))] [] h z c s) : ip sc call 17 MC MS Q 0 [some (.ref r_0), some (.ref r_1), o_2] [] h z c s := by
  refine jp_con (pc2 := 1) (v := (.int (nI 0))) rfl rfl rfl ?_
  refine jp_store (pc2 := 2) (n := 2) rfl rfl ⟨rfl, rfl⟩ rfl (Nat.le_of_ble_eq_true rfl) ?_
  exact K
theorem c17_2 {r_0 : Nat} {r_1 : Nat} {a_2 : Nat} {fs1 : List Value} {v_fs1_8 : Nat} (e2 : h r_1 = some (.inr (6, fs1))) (e3 : fs1[8]? = some (.int (nI v_fs1_8))) (c4 : a_2 < 2147483648) (c5 : v_fs1_8 < 2147483648) (K1 : v_fs1_8 ≤ a_2 → ip sc call 17 MC MS Q 95 [some (.ref r_0), some (.ref r_1), some (.int (nI a_2))] [] h z c s) (K2 : ¬ (v_fs1_8 ≤ a_2) → ip sc call 17 MC MS Q 10 [some (.ref r_0), some (.ref r_1), some (.int (nI a_2))] [] h z c s) : ip sc call 17 MC MS Q 2 [some (.ref r_0), some (.ref r_1), some (.int (nI a_2))] [] h z c s := by
  refine jp_load (pc2 := 3) (n := 2) rfl rfl rfl rfl ?_
  refine jp_load (pc2 := 4) (n := 1) rfl rfl rfl rfl ?_
  refine jp_getf (pc2 := 7) rfl rfl e2 e3 ?_
  exact jp_icmp (pc2 := 10) rfl rfl (fun q => K1 ((nI_leI c5 c4).mp q)) (fun q => K2 (fun r => q ((nI_leI c5 c4).mpr r)))
theorem c17_10 {r_0 : Nat} {r_1 : Nat} {a_2 : Nat} {fs1 : List Value} {q_fs1_4 : Nat} {n4 : Nat} {f5 : Nat → Int32} {v9 : Nat} (e2 : h r_1 = some (.inr (6, fs1))) (e3 : fs1[4]? = some (.ref q_fs1_4)) (e6 : h q_fs1_4 = some (.inl (0, n4, .inl f5))) (b7 : a_2 < n4) (c8 : n4 < 2147483648) (e10 : f5 a_2 = nI v9) (c11 : v9 < 2147483648) (K1 : v9 ≤ 1 → ip sc call 17 MC MS Q 44 [some (.ref r_0), some (.ref r_1), some (.int (nI a_2))] [] h z c s) (K2 : ¬ (v9 ≤ 1) → ip sc call 17 MC MS Q 20 [some (.ref r_0), some (.ref r_1), some (.int (nI a_2))] [] h z c s) : ip sc call 17 MC MS Q 10 [some (.ref r_0), some (.ref r_1), some (.int (nI a_2))] [] h z c s := by
  refine jp_load (pc2 := 11) (n := 1) rfl rfl rfl rfl ?_
  refine jp_getf (pc2 := 14) rfl rfl e2 e3 ?_
  refine jp_load (pc2 := 15) (n := 2) rfl rfl rfl rfl ?_
  refine jp_iald (pc2 := 16) rfl rfl e6 (vp_in_nI b7 c8) ?_
  rw [(nI_clamp (Nat.lt_trans b7 c8))]
  rw [e10]
  refine jp_con (pc2 := 17) (v := (.int (nI 1))) rfl rfl rfl ?_
  exact jp_icmp (pc2 := 20) rfl rfl (fun q => K1 ((nI_leI c11 (by decide)).mp q)) (fun q => K2 (fun r => q ((nI_leI c11 (by decide)).mpr r)))
theorem c17_20 {r_0 : Nat} {r_1 : Nat} {a_2 : Nat} {fs1 : List Value} {q_fs1_1 : Nat} {fs4 : List Value} {q_fs4_4 : Nat} {n7 : Nat} {f8 : Nat → Int32} {v12 : Nat} (e2 : h r_0 = some (.inr (3, fs1))) (e3 : fs1[1]? = some (.ref q_fs1_1)) (e5 : h r_1 = some (.inr (6, fs4))) (e6 : fs4[4]? = some (.ref q_fs4_4)) (e9 : h q_fs4_4 = some (.inl (0, n7, .inl f8))) (b10 : a_2 < n7) (c11 : n7 < 2147483648) (e13 : f8 a_2 = nI v12) (c14 : v12 < 2147483648) (K1 : ¬ v12 = 3 → ip sc call 17 MC MS Q 39 [some (.ref r_0), some (.ref r_1), some (.int (nI a_2))] [(.int (nI a_2)), (.ref q_fs1_1)] h z c s) (K2 : ¬ (¬ v12 = 3) → ip sc call 17 MC MS Q 35 [some (.ref r_0), some (.ref r_1), some (.int (nI a_2))] [(.int (nI a_2)), (.ref q_fs1_1)] h z c s) : ip sc call 17 MC MS Q 20 [some (.ref r_0), some (.ref r_1), some (.int (nI a_2))] [] h z c s := by
  refine jp_load (pc2 := 21) (n := 0) rfl rfl rfl rfl ?_
  refine jp_getf (pc2 := 24) rfl rfl e2 e3 ?_
  refine jp_load (pc2 := 25) (n := 2) rfl rfl rfl rfl ?_
  refine jp_load (pc2 := 26) (n := 1) rfl rfl rfl rfl ?_
  refine jp_getf (pc2 := 29) rfl rfl e5 e6 ?_
  refine jp_load (pc2 := 30) (n := 2) rfl rfl rfl rfl ?_
  refine jp_iald (pc2 := 31) rfl rfl e9 (vp_in_nI b10 c11) ?_
  rw [(nI_clamp (Nat.lt_trans b10 c11))]
  rw [e13]
  refine jp_con (pc2 := 32) (v := (.int (nI 3))) rfl rfl rfl ?_
  exact jp_icmp (pc2 := 35) rfl rfl (fun q => K1 ((not_congr (nI_eq c14 (by decide))).mp q)) (fun q => K2 (fun r => q ((not_congr (nI_eq c14 (by decide))).mpr r)))
theorem c17_35 {r_0 : Nat} {r_1 : Nat} {a_2 : Nat} {sr_0 : Nat} {sa_1 : Nat}  (K : ip sc call 17 MC MS Q 40 [some (.ref r_0), some (.ref r_1), some (.int (nI a_2))] [(.int (nI 1)), (.int (nI sa_1)), (.ref sr_0)] h z c s) : ip sc call 17 MC MS Q 35 [some (.ref r_0), some (.ref r_1), some (.int (nI a_2))] [(.int (nI sa_1)), (.ref sr_0)] h z c s := by
  refine jp_con (pc2 := 36) (v := (.int (nI 1))) rfl rfl rfl ?_
  refine ip_goto rfl ?_
  exact K
theorem c17_39 {r_0 : Nat} {r_1 : Nat} {a_2 : Nat} {sr_0 : Nat} {sa_1 : Nat}  (K : ip sc call 17 MC MS Q 40 [some (.ref r_0), some (.ref r_1), some (.int (nI a_2))] [(.int (nI 2)), (.int (nI sa_1)), (.ref sr_0)] h z c s) : ip sc call 17 MC MS Q 39 [some (.ref r_0), some (.ref r_1), some (.int (nI a_2))] [(.int (nI sa_1)), (.ref sr_0)] h z c s := by
  refine jp_con (pc2 := 40) (v := (.int (nI 2))) rfl rfl rfl ?_
  exact K
theorem c17_40 {r_0 : Nat} {r_1 : Nat} {a_2 : Nat} {sr_0 : Nat} {sa_1 : Nat} {sa_2 : Nat} {n1 : Nat} {f2 : Nat → Int32} {g6 : Nat → Int32} (e3 : h sr_0 = some (.inl (0, n1, .inl f2))) (b4 : sa_1 < n1) (c5 : n1 < 2147483648) (d7 : upd f2 sa_1 (nI sa_2) = g6) (K : ip sc call 17 MC MS Q 89 [some (.ref r_0), some (.ref r_1), some (.int (nI a_2))] [] (hup h sr_0 (.inl (0, n1, .inl g6))) z c s) : ip sc call 17 MC MS Q 40 [some (.ref r_0), some (.ref r_1), some (.int (nI a_2))] [(.int (nI sa_2)), (.int (nI sa_1)), (.ref sr_0)] h z c s := by
  refine jp_iast (pc2 := 41) rfl rfl e3 (vp_in_nI b4 c5) ?_
  rw [(nI_clamp (Nat.lt_trans b4 c5))]
  rw [d7]
  refine ip_goto rfl ?_
  exact K
theorem c17_44 {r_0 : Nat} {r_1 : Nat} {a_2 : Nat} {fs1 : List Value} {q_fs1_0 : Nat} {fs4 : List Value} {q_fs4_0 : Nat} {n7 : Nat} {f8 : Nat → Int32} {v12 : Nat} (e2 : h r_0 = some (.inr (3, fs1))) (e3 : fs1[0]? = some (.ref q_fs1_0)) (e5 : h q_fs1_0 = some (.inr (5, fs4))) (e6 : fs4[0]? = some (.ref q_fs4_0)) (e9 : h q_fs4_0 = some (.inl (0, n7, .inl f8))) (b10 : a_2 < n7) (c11 : n7 < 2147483648) (e13 : f8 a_2 = nI v12) (c14 : v12 < 2147483648) (K1 : 2 ≤ v12 → ip sc call 17 MC MS Q 67 [some (.ref r_0), some (.ref r_1), some (.int (nI a_2))] [] h z c s) (K2 : ¬ (2 ≤ v12) → ip sc call 17 MC MS Q 57 [some (.ref r_0), some (.ref r_1), some (.int (nI a_2))] [] h z c s) : ip sc call 17 MC MS Q 44 [some (.ref r_0), some (.ref r_1), some (.int (nI a_2))] [] h z c s := by
  refine jp_load (pc2 := 45) (n := 0) rfl rfl rfl rfl ?_
  refine jp_getf (pc2 := 48) rfl rfl e2 e3 ?_
  refine jp_getf (pc2 := 51) rfl rfl e5 e6 ?_
  refine jp_load (pc2 := 52) (n := 2) rfl rfl rfl rfl ?_
  refine jp_iald (pc2 := 53) rfl rfl e9 (vp_in_nI b10 c11) ?_
  rw [(nI_clamp (Nat.lt_trans b10 c11))]
  rw [e13]
  refine jp_con (pc2 := 54) (v := (.int (nI 2))) rfl rfl rfl ?_
  exact jp_icmp (pc2 := 57) rfl rfl (fun q => K1 ((nI_leI (by decide) c14).mp q)) (fun q => K2 (fun r => q ((nI_leI (by decide) c14).mpr r)))
theorem c17_57 {r_0 : Nat} {r_1 : Nat} {a_2 : Nat} {fs1 : List Value} {q_fs1_1 : Nat} {n4 : Nat} {f5 : Nat → Int32} {g9 : Nat → Int32} (e2 : h r_0 = some (.inr (3, fs1))) (e3 : fs1[1]? = some (.ref q_fs1_1)) (e6 : h q_fs1_1 = some (.inl (0, n4, .inl f5))) (b7 : a_2 < n4) (c8 : n4 < 2147483648) (d10 : upd f5 a_2 (nI 3) = g9) (K : ip sc call 17 MC MS Q 89 [some (.ref r_0), some (.ref r_1), some (.int (nI a_2))] [] (hup h q_fs1_1 (.inl (0, n4, .inl g9))) z c s) : ip sc call 17 MC MS Q 57 [some (.ref r_0), some (.ref r_1), some (.int (nI a_2))] [] h z c s := by
  refine jp_load (pc2 := 58) (n := 0) rfl rfl rfl rfl ?_
  refine jp_getf (pc2 := 61) rfl rfl e2 e3 ?_
  refine jp_load (pc2 := 62) (n := 2) rfl rfl rfl rfl ?_
  refine jp_con (pc2 := 63) (v := (.int (nI 3))) rfl rfl rfl ?_
  refine jp_iast (pc2 := 64) rfl rfl e6 (vp_in_nI b7 c8) ?_
  rw [(nI_clamp (Nat.lt_trans b7 c8))]
  rw [d10]
  refine ip_goto rfl ?_
  exact K
theorem c17_67 {r_0 : Nat} {r_1 : Nat} {a_2 : Nat} {fs1 : List Value} {q_fs1_1 : Nat} {q_fs1_0 : Nat} {fs5 : List Value} {P : ipQ} (e2 : h r_0 = some (.inr (3, fs1))) (e3 : fs1[1]? = some (.ref q_fs1_1)) (e4 : fs1[0]? = some (.ref q_fs1_0)) (e6 : h q_fs1_0 = some (.inr (5, fs5))) (m7 : c ≤ MC) (m8 : s ≤ MS) (hc : call 32 [(.ref q_fs1_0), (.int (nI a_2))] h z 0 0 P) (K : ∀ (o : Option Value) (h2 : HP) (z2 : Nat), P o h2 z2 → ip sc call 17 MC MS Q 80 [some (.ref r_0), some (.ref r_1), some (.int (nI a_2))] (o.toList ++ [(.int (nI a_2)), (.ref q_fs1_1)]) h2 z2 c s) : ip sc call 17 MC MS Q 67 [some (.ref r_0), some (.ref r_1), some (.int (nI a_2))] [] h z c s := by
  refine jp_load (pc2 := 68) (n := 0) rfl rfl rfl rfl ?_
  refine jp_getf (pc2 := 71) rfl rfl e2 e3 ?_
  refine jp_load (pc2 := 72) (n := 2) rfl rfl rfl rfl ?_
  refine jp_load (pc2 := 73) (n := 0) rfl rfl rfl rfl ?_
  refine jp_getf (pc2 := 76) rfl rfl e2 e4 ?_
  refine jp_load (pc2 := 77) (n := 2) rfl rfl rfl rfl ?_
  exact jp_virt0 (pc2 := 80) (As := [(.int (nI a_2))]) (rest := [(.int (nI a_2)), (.ref q_fs1_1)]) rfl rfl rfl (Nat.le_of_ble_eq_true rfl) e6 m7 m8 hc rfl K
theorem c17_80 {r_0 : Nat} {r_1 : Nat} {a_2 : Nat} {sr_0 : Nat} {sa_1 : Nat} {sa_2 : Nat} (c1 : sa_2 < 2147483648) (K1 : sa_2 = 0 → ip sc call 17 MC MS Q 87 [some (.ref r_0), some (.ref r_1), some (.int (nI a_2))] [(.int (nI sa_1)), (.ref sr_0)] h z c s) (K2 : ¬ (sa_2 = 0) → ip sc call 17 MC MS Q 83 [some (.ref r_0), some (.ref r_1), some (.int (nI a_2))] [(.int (nI sa_1)), (.ref sr_0)] h z c s) : ip sc call 17 MC MS Q 80 [some (.ref r_0), some (.ref r_1), some (.int (nI a_2))] [(.int (nI sa_2)), (.int (nI sa_1)), (.ref sr_0)] h z c s := by
  exact jp_if0 (pc2 := 83) rfl rfl (fun q => K1 ((nI_eq c1 (by decide)).mp q)) (fun q => K2 (fun r => q ((nI_eq c1 (by decide)).mpr r)))
theorem c17_83 {r_0 : Nat} {r_1 : Nat} {a_2 : Nat} {sr_0 : Nat} {sa_1 : Nat}  (K : ip sc call 17 MC MS Q 88 [some (.ref r_0), some (.ref r_1), some (.int (nI a_2))] [(.int (nI 4)), (.int (nI sa_1)), (.ref sr_0)] h z c s) : ip sc call 17 MC MS Q 83 [some (.ref r_0), some (.ref r_1), some (.int (nI a_2))] [(.int (nI sa_1)), (.ref sr_0)] h z c s := by
  refine jp_con (pc2 := 84) (v := (.int (nI 4))) rfl rfl rfl ?_
  refine ip_goto rfl ?_
  exact K
theorem c17_87 {r_0 : Nat} {r_1 : Nat} {a_2 : Nat} {sr_0 : Nat} {sa_1 : Nat}  (K : ip sc call 17 MC MS Q 88 [some (.ref r_0), some (.ref r_1), some (.int (nI a_2))] [(.int (nI 5)), (.int (nI sa_1)), (.ref sr_0)] h z c s) : ip sc call 17 MC MS Q 87 [some (.ref r_0), some (.ref r_1), some (.int (nI a_2))] [(.int (nI sa_1)), (.ref sr_0)] h z c s := by
  refine jp_con (pc2 := 88) (v := (.int (nI 5))) rfl rfl rfl ?_
  exact K
theorem c17_88 {r_0 : Nat} {r_1 : Nat} {a_2 : Nat} {sr_0 : Nat} {sa_1 : Nat} {sa_2 : Nat} {n1 : Nat} {f2 : Nat → Int32} {g6 : Nat → Int32} (e3 : h sr_0 = some (.inl (0, n1, .inl f2))) (b4 : sa_1 < n1) (c5 : n1 < 2147483648) (d7 : upd f2 sa_1 (nI sa_2) = g6) (K : ip sc call 17 MC MS Q 89 [some (.ref r_0), some (.ref r_1), some (.int (nI a_2))] [] (hup h sr_0 (.inl (0, n1, .inl g6))) z c s) : ip sc call 17 MC MS Q 88 [some (.ref r_0), some (.ref r_1), some (.int (nI a_2))] [(.int (nI sa_2)), (.int (nI sa_1)), (.ref sr_0)] h z c s := by
  refine jp_iast (pc2 := 89) rfl rfl e3 (vp_in_nI b4 c5) ?_
  rw [(nI_clamp (Nat.lt_trans b4 c5))]
  rw [d7]
  exact K
theorem c17_89 {r_0 : Nat} {r_1 : Nat} {a_2 : Nat}  (K : ip sc call 17 MC MS Q 2 [some (.ref r_0), some (.ref r_1), some (.int (nI (a_2 + 1)))] [] h z c s) : ip sc call 17 MC MS Q 89 [some (.ref r_0), some (.ref r_1), some (.int (nI a_2))] [] h z c s := by
  refine jp_iinc (pc2 := 92) (n := 2) (v := nI (a_2 + 1)) rfl rfl rfl (nI_add _ 1) rfl ?_
  refine ip_goto rfl ?_
  exact K
theorem c17_95 {o_0 : Option Value} {o_1 : Option Value} {o_2 : Option Value} (q1 : Q none h z)  : ip sc call 17 MC MS Q 95 [o_0, o_1, o_2] [] h z c s := by
  exact ip_vret (st := []) rfl rfl q1
theorem c18_0 {r_0 : Nat} {o_1 : Option Value} {o_2 : Option Value}  (K : ip sc call 18 MC MS Q 2 [some (.ref r_0), some (.int (nI 0)), o_2] [] h z c s) : ip sc call 18 MC MS Q 0 [some (.ref r_0), o_1, o_2] [] h z c s := by
  refine jp_con (pc2 := 1) (v := (.int (nI 0))) rfl rfl rfl ?_
  refine jp_store (pc2 := 2) (n := 1) rfl rfl ⟨rfl, rfl⟩ rfl (Nat.le_of_ble_eq_true rfl) ?_
  exact K
theorem c18_2 {r_0 : Nat} {a_1 : Nat} {o_2 : Option Value} {fs1 : List Value} {v_fs1_10 : Nat} (e2 : h r_0 = some (.inr (3, fs1))) (e3 : fs1[10]? = some (.int (nI v_fs1_10))) (c4 : a_1 < 2147483648) (c5 : v_fs1_10 < 2147483648) (K1 : v_fs1_10 ≤ a_1 → ip sc call 18 MC MS Q 43 [some (.ref r_0), some (.int (nI a_1)), o_2] [] h z c s) (K2 : ¬ (v_fs1_10 ≤ a_1) → ip sc call 18 MC MS Q 10 [some (.ref r_0), some (.int (nI a_1)), o_2] [] h z c s) : ip sc call 18 MC MS Q 2 [some (.ref r_0), some (.int (nI a_1)), o_2] [] h z c s := by
  refine jp_load (pc2 := 3) (n := 1) rfl rfl rfl rfl ?_
  refine jp_load (pc2 := 4) (n := 0) rfl rfl rfl rfl ?_
  refine jp_getf (pc2 := 7) rfl rfl e2 e3 ?_
  exact jp_icmp (pc2 := 10) rfl rfl (fun q => K1 ((nI_leI c5 c4).mp q)) (fun q => K2 (fun r => q ((nI_leI c5 c4).mpr r)))
theorem c18_10 {r_0 : Nat} {a_1 : Nat} {o_2 : Option Value} {fs1 : List Value} {q_fs1_1 : Nat} {q_fs1_7 : Nat} {n5 : Nat} {f6 : Nat → Int32} {v10 : Nat} {n12 : Nat} {f13 : Nat → Int32} {v17 : Nat} (e2 : h r_0 = some (.inr (3, fs1))) (e3 : fs1[1]? = some (.ref q_fs1_1)) (e4 : fs1[7]? = some (.ref q_fs1_7)) (e7 : h q_fs1_7 = some (.inl (0, n5, .inl f6))) (b8 : a_1 < n5) (c9 : n5 < 2147483648) (e11 : f6 a_1 = nI v10) (e14 : h q_fs1_1 = some (.inl (0, n12, .inl f13))) (b15 : v10 < n12) (c16 : n12 < 2147483648) (e18 : f13 v10 = nI v17) (c19 : v17 < 2147483648) (K1 : v17 < 4 → ip sc call 18 MC MS Q 37 [some (.ref r_0), some (.int (nI a_1)), o_2] [] h z c s) (K2 : ¬ (v17 < 4) → ip sc call 18 MC MS Q 25 [some (.ref r_0), some (.int (nI a_1)), o_2] [] h z c s) : ip sc call 18 MC MS Q 10 [some (.ref r_0), some (.int (nI a_1)), o_2] [] h z c s := by
  refine jp_load (pc2 := 11) (n := 0) rfl rfl rfl rfl ?_
  refine jp_getf (pc2 := 14) rfl rfl e2 e3 ?_
  refine jp_load (pc2 := 15) (n := 0) rfl rfl rfl rfl ?_
  refine jp_getf (pc2 := 18) rfl rfl e2 e4 ?_
  refine jp_load (pc2 := 19) (n := 1) rfl rfl rfl rfl ?_
  refine jp_iald (pc2 := 20) rfl rfl e7 (vp_in_nI b8 c9) ?_
  rw [(nI_clamp (Nat.lt_trans b8 c9))]
  rw [e11]
  refine jp_iald (pc2 := 21) rfl rfl e14 (vp_in_nI b15 c16) ?_
  rw [(nI_clamp (Nat.lt_trans b15 c16))]
  rw [e18]
  refine jp_con (pc2 := 22) (v := (.int (nI 4))) rfl rfl rfl ?_
  exact jp_icmp (pc2 := 25) rfl rfl (fun q => K1 ((nI_ltI c19 (by decide)).mp q)) (fun q => K2 (fun r => q ((nI_ltI c19 (by decide)).mpr r)))
theorem c18_25 {r_0 : Nat} {a_1 : Nat} {o_2 : Option Value} {fs1 : List Value} {q_fs1_1 : Nat} {q_fs1_7 : Nat} {n5 : Nat} {f6 : Nat → Int32} {v10 : Nat} {n12 : Nat} {f13 : Nat → Int32} {g17 : Nat → Int32} (e2 : h r_0 = some (.inr (3, fs1))) (e3 : fs1[1]? = some (.ref q_fs1_1)) (e4 : fs1[7]? = some (.ref q_fs1_7)) (e7 : h q_fs1_7 = some (.inl (0, n5, .inl f6))) (b8 : a_1 < n5) (c9 : n5 < 2147483648) (e11 : f6 a_1 = nI v10) (e14 : h q_fs1_1 = some (.inl (0, n12, .inl f13))) (b15 : v10 < n12) (c16 : n12 < 2147483648) (d18 : upd f13 v10 (nI 0) = g17) (K : ip sc call 18 MC MS Q 37 [some (.ref r_0), some (.int (nI a_1)), o_2] [] (hup h q_fs1_1 (.inl (0, n12, .inl g17))) z c s) : ip sc call 18 MC MS Q 25 [some (.ref r_0), some (.int (nI a_1)), o_2] [] h z c s := by
  refine jp_load (pc2 := 26) (n := 0) rfl rfl rfl rfl ?_
  refine jp_getf (pc2 := 29) rfl rfl e2 e3 ?_
  refine jp_load (pc2 := 30) (n := 0) rfl rfl rfl rfl ?_
  refine jp_getf (pc2 := 33) rfl rfl e2 e4 ?_
  refine jp_load (pc2 := 34) (n := 1) rfl rfl rfl rfl ?_
  refine jp_iald (pc2 := 35) rfl rfl e7 (vp_in_nI b8 c9) ?_
  rw [(nI_clamp (Nat.lt_trans b8 c9))]
  rw [e11]
  refine jp_con (pc2 := 36) (v := (.int (nI 0))) rfl rfl rfl ?_
  refine jp_iast (pc2 := 37) rfl rfl e14 (vp_in_nI b15 c16) ?_
  rw [(nI_clamp (Nat.lt_trans b15 c16))]
  rw [d18]
  exact K
theorem c18_37 {r_0 : Nat} {a_1 : Nat} {o_2 : Option Value}  (K : ip sc call 18 MC MS Q 2 [some (.ref r_0), some (.int (nI (a_1 + 1))), o_2] [] h z c s) : ip sc call 18 MC MS Q 37 [some (.ref r_0), some (.int (nI a_1)), o_2] [] h z c s := by
  refine jp_iinc (pc2 := 40) (n := 1) (v := nI (a_1 + 1)) rfl rfl rfl (nI_add _ 1) rfl ?_
  refine ip_goto rfl ?_
  exact K
theorem c18_43 {r_0 : Nat} {o_1 : Option Value} {o_2 : Option Value}  (K : ip sc call 18 MC MS Q 47 [some (.ref r_0), some (.int (nI 4)), some (.int (nI 0))] [] h z c s) : ip sc call 18 MC MS Q 43 [some (.ref r_0), o_1, o_2] [] h z c s := by
  refine jp_con (pc2 := 44) (v := (.int (nI 4))) rfl rfl rfl ?_
  refine jp_store (pc2 := 45) (n := 1) rfl rfl ⟨rfl, rfl⟩ rfl (Nat.le_of_ble_eq_true rfl) ?_
  refine jp_con (pc2 := 46) (v := (.int (nI 0))) rfl rfl rfl ?_
  refine jp_store (pc2 := 47) (n := 2) rfl rfl ⟨rfl, rfl⟩ rfl (Nat.le_of_ble_eq_true rfl) ?_
  exact K
theorem c18_47 {r_0 : Nat} {a_1 : Nat} {a_2 : Nat} {fs1 : List Value} {v_fs1_10 : Nat} (e2 : h r_0 = some (.inr (3, fs1))) (e3 : fs1[10]? = some (.int (nI v_fs1_10))) (c4 : a_2 < 2147483648) (c5 : v_fs1_10 < 2147483648) (K1 : v_fs1_10 ≤ a_2 → ip sc call 18 MC MS Q 90 [some (.ref r_0), some (.int (nI a_1)), some (.int (nI a_2))] [] h z c s) (K2 : ¬ (v_fs1_10 ≤ a_2) → ip sc call 18 MC MS Q 55 [some (.ref r_0), some (.int (nI a_1)), some (.int (nI a_2))] [] h z c s) : ip sc call 18 MC MS Q 47 [some (.ref r_0), some (.int (nI a_1)), some (.int (nI a_2))] [] h z c s := by
  refine jp_load (pc2 := 48) (n := 2) rfl rfl rfl rfl ?_
  refine jp_load (pc2 := 49) (n := 0) rfl rfl rfl rfl ?_
  refine jp_getf (pc2 := 52) rfl rfl e2 e3 ?_
  exact jp_icmp (pc2 := 55) rfl rfl (fun q => K1 ((nI_leI c5 c4).mp q)) (fun q => K2 (fun r => q ((nI_leI c5 c4).mpr r)))
theorem c18_55 {r_0 : Nat} {a_1 : Nat} {a_2 : Nat} {fs1 : List Value} {q_fs1_1 : Nat} {q_fs1_7 : Nat} {n5 : Nat} {f6 : Nat → Int32} {v10 : Nat} {n12 : Nat} {f13 : Nat → Int32} {v17 : Nat} (e2 : h r_0 = some (.inr (3, fs1))) (e3 : fs1[1]? = some (.ref q_fs1_1)) (e4 : fs1[7]? = some (.ref q_fs1_7)) (e7 : h q_fs1_7 = some (.inl (0, n5, .inl f6))) (b8 : a_2 < n5) (c9 : n5 < 2147483648) (e11 : f6 a_2 = nI v10) (e14 : h q_fs1_1 = some (.inl (0, n12, .inl f13))) (b15 : v10 < n12) (c16 : n12 < 2147483648) (e18 : f13 v10 = nI v17) (c19 : v17 < 2147483648) (K1 : ¬ v17 = 0 → ip sc call 18 MC MS Q 84 [some (.ref r_0), some (.int (nI a_1)), some (.int (nI a_2))] [] h z c s) (K2 : ¬ (¬ v17 = 0) → ip sc call 18 MC MS Q 69 [some (.ref r_0), some (.int (nI a_1)), some (.int (nI a_2))] [] h z c s) : ip sc call 18 MC MS Q 55 [some (.ref r_0), some (.int (nI a_1)), some (.int (nI a_2))] [] h z c s := by
  refine jp_load (pc2 := 56) (n := 0) rfl rfl rfl rfl ?_
  refine jp_getf (pc2 := 59) rfl rfl e2 e3 ?_
  refine jp_load (pc2 := 60) (n := 0) rfl rfl rfl rfl ?_
  refine jp_getf (pc2 := 63) rfl rfl e2 e4 ?_
  refine jp_load (pc2 := 64) (n := 2) rfl rfl rfl rfl ?_
  refine jp_iald (pc2 := 65) rfl rfl e7 (vp_in_nI b8 c9) ?_
  rw [(nI_clamp (Nat.lt_trans b8 c9))]
  rw [e11]
  refine jp_iald (pc2 := 66) rfl rfl e14 (vp_in_nI b15 c16) ?_
  rw [(nI_clamp (Nat.lt_trans b15 c16))]
  rw [e18]
  exact jp_if0 (pc2 := 69) rfl rfl (fun q => K1 ((not_congr (nI_eq c19 (by decide))).mp q)) (fun q => K2 (fun r => q ((not_congr (nI_eq c19 (by decide))).mpr r)))
theorem c18_69 {r_0 : Nat} {a_1 : Nat} {a_2 : Nat} {fs1 : List Value} {q_fs1_1 : Nat} {q_fs1_7 : Nat} {n5 : Nat} {f6 : Nat → Int32} {v10 : Nat} {n12 : Nat} {f13 : Nat → Int32} {g17 : Nat → Int32} (e2 : h r_0 = some (.inr (3, fs1))) (e3 : fs1[1]? = some (.ref q_fs1_1)) (e4 : fs1[7]? = some (.ref q_fs1_7)) (e7 : h q_fs1_7 = some (.inl (0, n5, .inl f6))) (b8 : a_2 < n5) (c9 : n5 < 2147483648) (e11 : f6 a_2 = nI v10) (e14 : h q_fs1_1 = some (.inl (0, n12, .inl f13))) (b15 : v10 < n12) (c16 : n12 < 2147483648) (d18 : upd f13 v10 (nI a_1) = g17) (K : ip sc call 18 MC MS Q 84 [some (.ref r_0), some (.int (nI (a_1 + 1))), some (.int (nI a_2))] [] (hup h q_fs1_1 (.inl (0, n12, .inl g17))) z c s) : ip sc call 18 MC MS Q 69 [some (.ref r_0), some (.int (nI a_1)), some (.int (nI a_2))] [] h z c s := by
  refine jp_load (pc2 := 70) (n := 0) rfl rfl rfl rfl ?_
  refine jp_getf (pc2 := 73) rfl rfl e2 e3 ?_
  refine jp_load (pc2 := 74) (n := 0) rfl rfl rfl rfl ?_
  refine jp_getf (pc2 := 77) rfl rfl e2 e4 ?_
  refine jp_load (pc2 := 78) (n := 2) rfl rfl rfl rfl ?_
  refine jp_iald (pc2 := 79) rfl rfl e7 (vp_in_nI b8 c9) ?_
  rw [(nI_clamp (Nat.lt_trans b8 c9))]
  rw [e11]
  refine jp_load (pc2 := 80) (n := 1) rfl rfl rfl rfl ?_
  refine jp_iast (pc2 := 81) rfl rfl e14 (vp_in_nI b15 c16) ?_
  rw [(nI_clamp (Nat.lt_trans b15 c16))]
  rw [d18]
  refine jp_iinc (pc2 := 84) (n := 1) (v := nI (a_1 + 1)) rfl rfl rfl (nI_add _ 1) rfl ?_
  exact K
theorem c18_84 {r_0 : Nat} {a_1 : Nat} {a_2 : Nat}  (K : ip sc call 18 MC MS Q 47 [some (.ref r_0), some (.int (nI a_1)), some (.int (nI (a_2 + 1)))] [] h z c s) : ip sc call 18 MC MS Q 84 [some (.ref r_0), some (.int (nI a_1)), some (.int (nI a_2))] [] h z c s := by
  refine jp_iinc (pc2 := 87) (n := 2) (v := nI (a_2 + 1)) rfl rfl rfl (nI_add _ 1) rfl ?_
  refine ip_goto rfl ?_
  exact K
theorem c18_90 {o_0 : Option Value} {a_1 : Nat} {o_2 : Option Value} (c1 : a_1 < 2147483648) (K1 : a_1 ≤ 4 → ip sc call 18 MC MS Q 99 [o_0, some (.int (nI a_1)), o_2] [] h z c s) (K2 : ¬ (a_1 ≤ 4) → ip sc call 18 MC MS Q 95 [o_0, some (.int (nI a_1)), o_2] [] h z c s) : ip sc call 18 MC MS Q 90 [o_0, some (.int (nI a_1)), o_2] [] h z c s := by
  refine jp_load (pc2 := 91) (n := 1) rfl rfl rfl rfl ?_
  refine jp_con (pc2 := 92) (v := (.int (nI 4))) rfl rfl rfl ?_
  exact jp_icmp (pc2 := 95) rfl rfl (fun q => K1 ((nI_leI c1 (by decide)).mp q)) (fun q => K2 (fun r => q ((nI_leI c1 (by decide)).mpr r)))
theorem c18_95 {o_0 : Option Value} {o_1 : Option Value} {o_2 : Option Value}  (K : ip sc call 18 MC MS Q 100 [o_0, o_1, o_2] [(.int (nI 1))] h z c s) : ip sc call 18 MC MS Q 95 [o_0, o_1, o_2] [] h z c s := by
  refine jp_con (pc2 := 96) (v := (.int (nI 1))) rfl rfl rfl ?_
  refine ip_goto rfl ?_
  exact K
theorem c18_99 {o_0 : Option Value} {o_1 : Option Value} {o_2 : Option Value}  (K : ip sc call 18 MC MS Q 100 [o_0, o_1, o_2] [(.int (nI 0))] h z c s) : ip sc call 18 MC MS Q 99 [o_0, o_1, o_2] [] h z c s := by
  refine jp_con (pc2 := 100) (v := (.int (nI 0))) rfl rfl rfl ?_
  exact K
theorem c18_100 {o_0 : Option Value} {o_1 : Option Value} {o_2 : Option Value} {sa_0 : Nat} (t1 : narrow .boolean (.int (nI sa_0)) = .int (nI sa_0)) (q2 : Q (some (.int (nI sa_0))) h z)  : ip sc call 18 MC MS Q 100 [o_0, o_1, o_2] [(.int (nI sa_0))] h z c s := by
  exact ip_iret (st := []) rfl rfl t1 q2
theorem c19_0 {r_0 : Nat} {r_1 : Nat} {a_2 : Nat} {fs1 : List Value} {P : ipQ} (e2 : h r_0 = some (.inr (3, fs1))) (m3 : c ≤ MC) (m4 : s ≤ MS) (hc : call 21 [(.ref r_0), (.ref r_1), (.int (nI a_2)), (.int (nI 0))] h z 0 0 P) (K : ∀ (o : Option Value) (h2 : HP) (z2 : Nat), P o h2 z2 → ip sc call 19 MC MS Q 7 [some (.ref r_0), some (.ref r_1), some (.int (nI a_2))] (o.toList ++ []) h2 z2 c s) : ip sc call 19 MC MS Q 0 [some (.ref r_0), some (.ref r_1), some (.int (nI a_2))] [] h z c s := by
  refine jp_load (pc2 := 1) (n := 0) rfl rfl rfl rfl ?_
  refine jp_load (pc2 := 2) (n := 1) rfl rfl rfl rfl ?_
  refine jp_load (pc2 := 3) (n := 2) rfl rfl rfl rfl ?_
  refine jp_con (pc2 := 4) (v := (.int (nI 0))) rfl rfl rfl ?_
  exact jp_virt0 (pc2 := 7) (As := [(.ref r_1), (.int (nI a_2)), (.int (nI 0))]) (rest := []) rfl rfl rfl (Nat.le_of_ble_eq_true rfl) e2 m3 m4 hc rfl K
theorem c19_7 {r_0 : Nat} {r_1 : Nat} {a_2 : Nat} {fs1 : List Value} {P : ipQ} (e2 : h r_0 = some (.inr (3, fs1))) (m3 : c ≤ MC) (m4 : s ≤ MS) (hc : call 21 [(.ref r_0), (.ref r_1), (.int (nI a_2)), (.int (nI 31))] h z 0 0 P) (K : ∀ (o : Option Value) (h2 : HP) (z2 : Nat), P o h2 z2 → ip sc call 19 MC MS Q 15 [some (.ref r_0), some (.ref r_1), some (.int (nI a_2))] (o.toList ++ []) h2 z2 c s) : ip sc call 19 MC MS Q 7 [some (.ref r_0), some (.ref r_1), some (.int (nI a_2))] [] h z c s := by
  refine jp_load (pc2 := 8) (n := 0) rfl rfl rfl rfl ?_
  refine jp_load (pc2 := 9) (n := 1) rfl rfl rfl rfl ?_
  refine jp_load (pc2 := 10) (n := 2) rfl rfl rfl rfl ?_
  refine jp_con (pc2 := 12) (v := (.int (nI 31))) rfl rfl rfl ?_
  exact jp_virt0 (pc2 := 15) (As := [(.ref r_1), (.int (nI a_2)), (.int (nI 31))]) (rest := []) rfl rfl rfl (Nat.le_of_ble_eq_true rfl) e2 m3 m4 hc rfl K
theorem c19_15 {r_0 : Nat} {r_1 : Nat} {a_2 : Nat} {fs1 : List Value} {q_fs1_6 : Nat} {n4 : Nat} {f5 : Nat → Int32} {g9 : Nat → Int32} {P : ipQ} (e2 : h r_0 = some (.inr (3, fs1))) (e3 : fs1[6]? = some (.ref q_fs1_6)) (e6 : h q_fs1_6 = some (.inl (0, n4, .inl f5))) (b7 : a_2 < n4) (c8 : n4 < 2147483648) (d10 : upd f5 a_2 (nI 0) = g9) (n11 : r_0 ≠ q_fs1_6) (m12 : c ≤ MC) (m13 : s ≤ MS) (hc : call 22 [(.ref r_0), (.ref r_1), (.int (nI a_2)), (.int (nI a_2)), (.int (nI 31))] (hup h q_fs1_6 (.inl (0, n4, .inl g9))) z 0 0 P) (K : ∀ (o : Option Value) (h2 : HP) (z2 : Nat), P o h2 z2 → ip sc call 19 MC MS Q 31 [some (.ref r_0), some (.ref r_1), some (.int (nI a_2))] (o.toList ++ []) h2 z2 c s) : ip sc call 19 MC MS Q 15 [some (.ref r_0), some (.ref r_1), some (.int (nI a_2))] [] h z c s := by
  refine jp_load (pc2 := 16) (n := 0) rfl rfl rfl rfl ?_
  refine jp_getf (pc2 := 19) rfl rfl e2 e3 ?_
  refine jp_load (pc2 := 20) (n := 2) rfl rfl rfl rfl ?_
  refine jp_con (pc2 := 21) (v := (.int (nI 0))) rfl rfl rfl ?_
  refine jp_iast (pc2 := 22) rfl rfl e6 (vp_in_nI b7 c8) ?_
  rw [(nI_clamp (Nat.lt_trans b7 c8))]
  rw [d10]
  refine jp_load (pc2 := 23) (n := 0) rfl rfl rfl rfl ?_
  refine jp_load (pc2 := 24) (n := 1) rfl rfl rfl rfl ?_
  refine jp_load (pc2 := 25) (n := 2) rfl rfl rfl rfl ?_
  refine jp_load (pc2 := 26) (n := 2) rfl rfl rfl rfl ?_
  refine jp_con (pc2 := 28) (v := (.int (nI 31))) rfl rfl rfl ?_
  exact jp_virt0 (pc2 := 31) (As := [(.ref r_1), (.int (nI a_2)), (.int (nI a_2)), (.int (nI 31))]) (rest := []) rfl rfl rfl (Nat.le_of_ble_eq_true rfl) (hup_ne n11 e2) m12 m13 hc rfl K
theorem c19_31 {r_0 : Nat} {o_1 : Option Value} {a_2 : Nat} {sa_0 : Nat} (c1 : sa_0 < 2147483648) (K1 : sa_0 ≤ 0 → ip sc call 19 MC MS Q 42 [some (.ref r_0), o_1, some (.int (nI a_2))] [] h z c s) (K2 : ¬ (sa_0 ≤ 0) → ip sc call 19 MC MS Q 34 [some (.ref r_0), o_1, some (.int (nI a_2))] [] h z c s) : ip sc call 19 MC MS Q 31 [some (.ref r_0), o_1, some (.int (nI a_2))] [(.int (nI sa_0))] h z c s := by
  exact jp_if0 (pc2 := 34) rfl rfl (fun q => K1 ((nI_leI c1 (by decide)).mp q)) (fun q => K2 (fun r => q ((nI_leI c1 (by decide)).mpr r)))
theorem c19_34 {r_0 : Nat} {o_1 : Option Value} {a_2 : Nat} {fs1 : List Value} {q_fs1_6 : Nat} {n4 : Nat} {f5 : Nat → Int32} {g9 : Nat → Int32} (e2 : h r_0 = some (.inr (3, fs1))) (e3 : fs1[6]? = some (.ref q_fs1_6)) (e6 : h q_fs1_6 = some (.inl (0, n4, .inl f5))) (b7 : a_2 < n4) (c8 : n4 < 2147483648) (d10 : upd f5 a_2 (nI 31) = g9) (K : ip sc call 19 MC MS Q 42 [some (.ref r_0), o_1, some (.int (nI a_2))] [] (hup h q_fs1_6 (.inl (0, n4, .inl g9))) z c s) : ip sc call 19 MC MS Q 34 [some (.ref r_0), o_1, some (.int (nI a_2))] [] h z c s := by
  refine jp_load (pc2 := 35) (n := 0) rfl rfl rfl rfl ?_
  refine jp_getf (pc2 := 38) rfl rfl e2 e3 ?_
  refine jp_load (pc2 := 39) (n := 2) rfl rfl rfl rfl ?_
  refine jp_con (pc2 := 41) (v := (.int (nI 31))) rfl rfl rfl ?_
  refine jp_iast (pc2 := 42) rfl rfl e6 (vp_in_nI b7 c8) ?_
  rw [(nI_clamp (Nat.lt_trans b7 c8))]
  rw [d10]
  exact K
theorem c19_42 {o_0 : Option Value} {o_1 : Option Value} {o_2 : Option Value} (q1 : Q none h z)  : ip sc call 19 MC MS Q 42 [o_0, o_1, o_2] [] h z c s := by
  exact ip_vret (st := []) rfl rfl q1
theorem c20_0 {r_0 : Nat} {r_1 : Nat} {o_2 : Option Value} {o_3 : Option Value} {o_4 : Option Value}  (K : ip sc call 20 MC MS Q 2 [some (.ref r_0), some (.ref r_1), some (.int (nI 1)), o_3, o_4] [] h z c s) : ip sc call 20 MC MS Q 0 [some (.ref r_0), some (.ref r_1), o_2, o_3, o_4] [] h z c s := by
  refine jp_con (pc2 := 1) (v := (.int (nI 1))) rfl rfl rfl ?_
  refine jp_store (pc2 := 2) (n := 2) rfl rfl ⟨rfl, rfl⟩ rfl (Nat.le_of_ble_eq_true rfl) ?_
  exact K
theorem c20_2 {r_0 : Nat} {r_1 : Nat} {a_2 : Nat} {o_3 : Option Value} {o_4 : Option Value} {fs1 : List Value} {v_fs1_9 : Nat} (e2 : h r_0 = some (.inr (3, fs1))) (e3 : fs1[9]? = some (.int (nI v_fs1_9))) (c4 : a_2 < 2147483648) (c5 : v_fs1_9 < 2147483648) (K1 : v_fs1_9 ≤ a_2 → ip sc call 20 MC MS Q 85 [some (.ref r_0), some (.ref r_1), some (.int (nI a_2)), o_3, o_4] [] h z c s) (K2 : ¬ (v_fs1_9 ≤ a_2) → ip sc call 20 MC MS Q 10 [some (.ref r_0), some (.ref r_1), some (.int (nI a_2)), o_3, o_4] [] h z c s) : ip sc call 20 MC MS Q 2 [some (.ref r_0), some (.ref r_1), some (.int (nI a_2)), o_3, o_4] [] h z c s := by
  refine jp_load (pc2 := 3) (n := 2) rfl rfl rfl rfl ?_
  refine jp_load (pc2 := 4) (n := 0) rfl rfl rfl rfl ?_
  refine jp_getf (pc2 := 7) rfl rfl e2 e3 ?_
  exact jp_icmp (pc2 := 10) rfl rfl (fun q => K1 ((nI_leI c5 c4).mp q)) (fun q => K2 (fun r => q ((nI_leI c5 c4).mpr r)))
theorem c20_10 {r_0 : Nat} {r_1 : Nat} {a_2 : Nat} {o_3 : Option Value} {o_4 : Option Value} {fs1 : List Value} {q_fs1_2 : Nat} {n4 : Nat} {f5 : Nat → Int32} {v9 : Nat} (e2 : h r_0 = some (.inr (3, fs1))) (e3 : fs1[2]? = some (.ref q_fs1_2)) (e6 : h q_fs1_2 = some (.inl (0, n4, .inl f5))) (b7 : a_2 < n4) (c8 : n4 < 2147483648) (e10 : f5 a_2 = nI v9) (K : ip sc call 20 MC MS Q 20 [some (.ref r_0), some (.ref r_1), some (.int (nI a_2)), some (.int (nI v9)), some (.int (nI a_2))] [] h z c s) : ip sc call 20 MC MS Q 10 [some (.ref r_0), some (.ref r_1), some (.int (nI a_2)), o_3, o_4] [] h z c s := by
  refine jp_load (pc2 := 11) (n := 0) rfl rfl rfl rfl ?_
  refine jp_getf (pc2 := 14) rfl rfl e2 e3 ?_
  refine jp_load (pc2 := 15) (n := 2) rfl rfl rfl rfl ?_
  refine jp_iald (pc2 := 16) rfl rfl e6 (vp_in_nI b7 c8) ?_
  rw [(nI_clamp (Nat.lt_trans b7 c8))]
  rw [e10]
  refine jp_store (pc2 := 17) (n := 3) rfl rfl ⟨rfl, rfl⟩ rfl (Nat.le_of_ble_eq_true rfl) ?_
  refine jp_load (pc2 := 18) (n := 2) rfl rfl rfl rfl ?_
  refine jp_store (pc2 := 20) (n := 4) rfl rfl ⟨rfl, rfl⟩ rfl (Nat.le_of_ble_eq_true rfl) ?_
  exact K
theorem c20_20 {r_0 : Nat} {r_1 : Nat} {a_2 : Nat} {a_3 : Nat} {a_4 : Nat} (c1 : a_4 < 2147483648) (K1 : a_4 ≤ 0 → ip sc call 20 MC MS Q 71 [some (.ref r_0), some (.ref r_1), some (.int (nI a_2)), some (.int (nI a_3)), some (.int (nI a_4))] [] h z c s) (K2 : ¬ (a_4 ≤ 0) → ip sc call 20 MC MS Q 25 [some (.ref r_0), some (.ref r_1), some (.int (nI a_2)), some (.int (nI a_3)), some (.int (nI a_4))] [] h z c s) : ip sc call 20 MC MS Q 20 [some (.ref r_0), some (.ref r_1), some (.int (nI a_2)), some (.int (nI a_3)), some (.int (nI a_4))] [] h z c s := by
  refine jp_load (pc2 := 22) (n := 4) rfl rfl rfl rfl ?_
  exact jp_if0 (pc2 := 25) rfl rfl (fun q => K1 ((nI_leI c1 (by decide)).mp q)) (fun q => K2 (fun r => q ((nI_leI c1 (by decide)).mpr r)))
theorem c20_25 {r_0 : Nat} {r_1 : Nat} {a_2 : Nat} {a_3 : Nat} {a_4 : Nat} {fs1 : List Value} {q_fs1_2 : Nat} {n5 : Nat} {f6 : Nat → Int32} {v10 : Nat} {q_fs1_6 : Nat} {n13 : Nat} {f14 : Nat → Int32} {v18 : Nat} {P : ipQ} (e2 : h r_0 = some (.inr (3, fs1))) (e3 : fs1[2]? = some (.ref q_fs1_2)) (d4 : 1 ≤ a_4) (e7 : h q_fs1_2 = some (.inl (0, n5, .inl f6))) (b8 : a_4 - 1 < n5) (c9 : n5 < 2147483648) (e11 : f6 (a_4 - 1) = nI v10) (e12 : fs1[6]? = some (.ref q_fs1_6)) (e15 : h q_fs1_6 = some (.inl (0, n13, .inl f14))) (b16 : a_3 < n13) (c17 : n13 < 2147483648) (e19 : f14 a_3 = nI v18) (m20 : c ≤ MC) (m21 : s ≤ MS) (hc : call 22 [(.ref r_0), (.ref r_1), (.int (nI v10)), (.int (nI a_3)), (.int (nI v18))] h z 0 0 P) (K : ∀ (o : Option Value) (h2 : HP) (z2 : Nat), P o h2 z2 → ip sc call 20 MC MS Q 46 [some (.ref r_0), some (.ref r_1), some (.int (nI a_2)), some (.int (nI a_3)), some (.int (nI a_4))] (o.toList ++ []) h2 z2 c s) : ip sc call 20 MC MS Q 25 [some (.ref r_0), some (.ref r_1), some (.int (nI a_2)), some (.int (nI a_3)), some (.int (nI a_4))] [] h z c s := by
  refine jp_load (pc2 := 26) (n := 0) rfl rfl rfl rfl ?_
  refine jp_load (pc2 := 27) (n := 1) rfl rfl rfl rfl ?_
  refine jp_load (pc2 := 28) (n := 0) rfl rfl rfl rfl ?_
  refine jp_getf (pc2 := 31) rfl rfl e2 e3 ?_
  refine jp_load (pc2 := 33) (n := 4) rfl rfl rfl rfl ?_
  refine jp_con (pc2 := 34) (v := (.int (nI 1))) rfl rfl rfl ?_
  refine jp_bin (pc2 := 35) (v := nI (a_4 - 1)) rfl rfl (congrArg some (pk_sub d4)) ?_
  refine jp_iald (pc2 := 36) rfl rfl e7 (vp_in_nI b8 c9) ?_
  rw [(nI_clamp (Nat.lt_trans b8 c9))]
  rw [e11]
  refine jp_load (pc2 := 37) (n := 3) rfl rfl rfl rfl ?_
  refine jp_load (pc2 := 38) (n := 0) rfl rfl rfl rfl ?_
  refine jp_getf (pc2 := 41) rfl rfl e2 e12 ?_
  refine jp_load (pc2 := 42) (n := 3) rfl rfl rfl rfl ?_
  refine jp_iald (pc2 := 43) rfl rfl e15 (vp_in_nI b16 c17) ?_
  rw [(nI_clamp (Nat.lt_trans b16 c17))]
  rw [e19]
  exact jp_virt0 (pc2 := 46) (As := [(.ref r_1), (.int (nI v10)), (.int (nI a_3)), (.int (nI v18))]) (rest := []) rfl rfl rfl (Nat.le_of_ble_eq_true rfl) e2 m20 m21 hc rfl K
theorem c20_46 {r_0 : Nat} {r_1 : Nat} {a_2 : Nat} {a_3 : Nat} {a_4 : Nat} {sa_0 : Nat} (c1 : sa_0 < 2147483648) (K1 : 0 ≤ sa_0 → ip sc call 20 MC MS Q 71 [some (.ref r_0), some (.ref r_1), some (.int (nI a_2)), some (.int (nI a_3)), some (.int (nI a_4))] [] h z c s) (K2 : ¬ (0 ≤ sa_0) → ip sc call 20 MC MS Q 49 [some (.ref r_0), some (.ref r_1), some (.int (nI a_2)), some (.int (nI a_3)), some (.int (nI a_4))] [] h z c s) : ip sc call 20 MC MS Q 46 [some (.ref r_0), some (.ref r_1), some (.int (nI a_2)), some (.int (nI a_3)), some (.int (nI a_4))] [(.int (nI sa_0))] h z c s := by
  exact jp_if0 (pc2 := 49) rfl rfl (fun q => K1 ((nI_leI (by decide) c1).mp q)) (fun q => K2 (fun r => q ((nI_leI (by decide) c1).mpr r)))
theorem c20_49 {r_0 : Nat} {r_1 : Nat} {a_2 : Nat} {a_3 : Nat} {a_4 : Nat} {fs1 : List Value} {q_fs1_2 : Nat} {n5 : Nat} {f6 : Nat → Int32} {v10 : Nat} {g13 : Nat → Int32} (e2 : h r_0 = some (.inr (3, fs1))) (e3 : fs1[2]? = some (.ref q_fs1_2)) (d4 : 1 ≤ a_4) (e7 : h q_fs1_2 = some (.inl (0, n5, .inl f6))) (b8 : a_4 - 1 < n5) (c9 : n5 < 2147483648) (e11 : f6 (a_4 - 1) = nI v10) (b12 : a_4 < n5) (d14 : upd f6 a_4 (nI v10) = g13) (K : ip sc call 20 MC MS Q 20 [some (.ref r_0), some (.ref r_1), some (.int (nI a_2)), some (.int (nI a_3)), some (.int (nI (a_4 - 1)))] [] (hup h q_fs1_2 (.inl (0, n5, .inl g13))) z c s) : ip sc call 20 MC MS Q 49 [some (.ref r_0), some (.ref r_1), some (.int (nI a_2)), some (.int (nI a_3)), some (.int (nI a_4))] [] h z c s := by
  refine jp_load (pc2 := 50) (n := 0) rfl rfl rfl rfl ?_
  refine jp_getf (pc2 := 53) rfl rfl e2 e3 ?_
  refine jp_load (pc2 := 55) (n := 4) rfl rfl rfl rfl ?_
  refine jp_load (pc2 := 56) (n := 0) rfl rfl rfl rfl ?_
  refine jp_getf (pc2 := 59) rfl rfl e2 e3 ?_
  refine jp_load (pc2 := 61) (n := 4) rfl rfl rfl rfl ?_
  refine jp_con (pc2 := 62) (v := (.int (nI 1))) rfl rfl rfl ?_
  refine jp_bin (pc2 := 63) (v := nI (a_4 - 1)) rfl rfl (congrArg some (pk_sub d4)) ?_
  refine jp_iald (pc2 := 64) rfl rfl e7 (vp_in_nI b8 c9) ?_
  rw [(nI_clamp (Nat.lt_trans b8 c9))]
  rw [e11]
  refine jp_iast (pc2 := 65) rfl rfl e7 (vp_in_nI b12 c9) ?_
  rw [(nI_clamp (Nat.lt_trans b12 c9))]
  rw [d14]
  refine jp_iinc (pc2 := 68) (n := 4) (v := nI (a_4 - 1)) rfl rfl rfl (nI_dec d4) rfl ?_
  refine ip_goto rfl ?_
  exact K
theorem c20_71 {r_0 : Nat} {r_1 : Nat} {a_2 : Nat} {a_3 : Nat} {a_4 : Nat} {fs1 : List Value} {q_fs1_2 : Nat} {n4 : Nat} {f5 : Nat → Int32} {g9 : Nat → Int32} (e2 : h r_0 = some (.inr (3, fs1))) (e3 : fs1[2]? = some (.ref q_fs1_2)) (e6 : h q_fs1_2 = some (.inl (0, n4, .inl f5))) (b7 : a_4 < n4) (c8 : n4 < 2147483648) (d10 : upd f5 a_4 (nI a_3) = g9) (K : ip sc call 20 MC MS Q 2 [some (.ref r_0), some (.ref r_1), some (.int (nI (a_2 + 1))), some (.int (nI a_3)), some (.int (nI a_4))] [] (hup h q_fs1_2 (.inl (0, n4, .inl g9))) z c s) : ip sc call 20 MC MS Q 71 [some (.ref r_0), some (.ref r_1), some (.int (nI a_2)), some (.int (nI a_3)), some (.int (nI a_4))] [] h z c s := by
  refine jp_load (pc2 := 72) (n := 0) rfl rfl rfl rfl ?_
  refine jp_getf (pc2 := 75) rfl rfl e2 e3 ?_
  refine jp_load (pc2 := 77) (n := 4) rfl rfl rfl rfl ?_
  refine jp_load (pc2 := 78) (n := 3) rfl rfl rfl rfl ?_
  refine jp_iast (pc2 := 79) rfl rfl e6 (vp_in_nI b7 c8) ?_
  rw [(nI_clamp (Nat.lt_trans b7 c8))]
  rw [d10]
  refine jp_iinc (pc2 := 82) (n := 2) (v := nI (a_2 + 1)) rfl rfl rfl (nI_add _ 1) rfl ?_
  refine ip_goto rfl ?_
  exact K
theorem c20_85 {o_0 : Option Value} {o_1 : Option Value} {o_2 : Option Value} {o_3 : Option Value} {o_4 : Option Value} (q1 : Q none h z)  : ip sc call 20 MC MS Q 85 [o_0, o_1, o_2, o_3, o_4] [] h z c s := by
  exact ip_vret (st := []) rfl rfl q1
theorem c21_0 {r_0 : Nat} {r_1 : Nat} {a_2 : Nat} {a_3 : Nat} {o_4 : Option Value} {o_5 : Option Value} {fs1 : List Value} {q_fs1_3 : Nat} {n4 : Nat} {f5 : Nat → Int32} {v9 : Nat} (e2 : h r_1 = some (.inr (6, fs1))) (e3 : fs1[3]? = some (.ref q_fs1_3)) (e6 : h q_fs1_3 = some (.inl (0, n4, .inl f5))) (b7 : a_2 < n4) (c8 : n4 < 2147483648) (e10 : f5 a_2 = nI v9) (K : ip sc call 21 MC MS Q 8 [some (.ref r_0), some (.ref r_1), some (.int (nI a_2)), some (.int (nI a_3)), some (.int (nI v9)), o_5] [] h z c s) : ip sc call 21 MC MS Q 0 [some (.ref r_0), some (.ref r_1), some (.int (nI a_2)), some (.int (nI a_3)), o_4, o_5] [] h z c s := by
  refine jp_load (pc2 := 1) (n := 1) rfl rfl rfl rfl ?_
  refine jp_getf (pc2 := 4) rfl rfl e2 e3 ?_
  refine jp_load (pc2 := 5) (n := 2) rfl rfl rfl rfl ?_
  refine jp_iald (pc2 := 6) rfl rfl e6 (vp_in_nI b7 c8) ?_
  rw [(nI_clamp (Nat.lt_trans b7 c8))]
  rw [e10]
  refine jp_store (pc2 := 8) (n := 4) rfl rfl ⟨rfl, rfl⟩ rfl (Nat.le_of_ble_eq_true rfl) ?_
  exact K
theorem c21_8 {r_0 : Nat} {r_1 : Nat} {a_2 : Nat} {a_3 : Nat} {a_4 : Nat} {o_5 : Option Value} {fs1 : List Value} {q_fs1_3 : Nat} {n4 : Nat} {f5 : Nat → Int32} {v9 : Nat} (e2 : h r_1 = some (.inr (6, fs1))) (e3 : fs1[3]? = some (.ref q_fs1_3)) (e6 : h q_fs1_3 = some (.inl (0, n4, .inl f5))) (b7 : a_2 + 1 < n4) (c8 : n4 < 2147483648) (e10 : f5 (a_2 + 1) = nI v9) (c11 : a_4 < 2147483648) (c12 : v9 < 2147483648) (K1 : v9 ≤ a_4 → ip sc call 21 MC MS Q 118 [some (.ref r_0), some (.ref r_1), some (.int (nI a_2)), some (.int (nI a_3)), some (.int (nI a_4)), o_5] [] h z c s) (K2 : ¬ (v9 ≤ a_4) → ip sc call 21 MC MS Q 21 [some (.ref r_0), some (.ref r_1), some (.int (nI a_2)), some (.int (nI a_3)), some (.int (nI a_4)), o_5] [] h z c s) : ip sc call 21 MC MS Q 8 [some (.ref r_0), some (.ref r_1), some (.int (nI a_2)), some (.int (nI a_3)), some (.int (nI a_4)), o_5] [] h z c s := by
  refine jp_load (pc2 := 10) (n := 4) rfl rfl rfl rfl ?_
  refine jp_load (pc2 := 11) (n := 1) rfl rfl rfl rfl ?_
  refine jp_getf (pc2 := 14) rfl rfl e2 e3 ?_
  refine jp_load (pc2 := 15) (n := 2) rfl rfl rfl rfl ?_
  refine jp_con (pc2 := 16) (v := (.int (nI 1))) rfl rfl rfl ?_
  refine jp_bin (pc2 := 17) (v := nI (a_2 + 1)) rfl rfl (congrArg some (nI_add _ _)) ?_
  refine jp_iald (pc2 := 18) rfl rfl e6 (vp_in_nI b7 c8) ?_
  rw [(nI_clamp (Nat.lt_trans b7 c8))]
  rw [e10]
  exact jp_icmp (pc2 := 21) rfl rfl (fun q => K1 ((nI_leI c12 c11).mp q)) (fun q => K2 (fun r => q ((nI_leI c12 c11).mpr r)))
theorem c21_21 {r_0 : Nat} {r_1 : Nat} {a_2 : Nat} {a_3 : Nat} {a_4 : Nat} {o_5 : Option Value} {fs1 : List Value} {P : ipQ} (e2 : h r_0 = some (.inr (3, fs1))) (m3 : c ≤ MC) (m4 : s ≤ MS) (hc : call 23 [(.ref r_0), (.ref r_1), (.int (nI a_4)), (.int (nI a_3))] h z 0 0 P) (K : ∀ (o : Option Value) (h2 : HP) (z2 : Nat), P o h2 z2 → ip sc call 21 MC MS Q 29 [some (.ref r_0), some (.ref r_1), some (.int (nI a_2)), some (.int (nI a_3)), some (.int (nI a_4)), o_5] (o.toList ++ []) h2 z2 c s) : ip sc call 21 MC MS Q 21 [some (.ref r_0), some (.ref r_1), some (.int (nI a_2)), some (.int (nI a_3)), some (.int (nI a_4)), o_5] [] h z c s := by
  refine jp_load (pc2 := 22) (n := 0) rfl rfl rfl rfl ?_
  refine jp_load (pc2 := 23) (n := 1) rfl rfl rfl rfl ?_
  refine jp_load (pc2 := 25) (n := 4) rfl rfl rfl rfl ?_
  refine jp_load (pc2 := 26) (n := 3) rfl rfl rfl rfl ?_
  exact jp_virt0 (pc2 := 29) (As := [(.ref r_1), (.int (nI a_4)), (.int (nI a_3))]) (rest := []) rfl rfl rfl (Nat.le_of_ble_eq_true rfl) e2 m3 m4 hc rfl K
theorem c21_29 {r_0 : Nat} {r_1 : Nat} {a_2 : Nat} {a_3 : Nat} {a_4 : Nat} {o_5 : Option Value}  (K : ip sc call 21 MC MS Q 33 [some (.ref r_0), some (.ref r_1), some (.int (nI a_2)), some (.int (nI a_3)), some (.int (nI a_4)), some (.int (nI a_4))] [] h z c s) : ip sc call 21 MC MS Q 29 [some (.ref r_0), some (.ref r_1), some (.int (nI a_2)), some (.int (nI a_3)), some (.int (nI a_4)), o_5] [] h z c s := by
  refine jp_load (pc2 := 31) (n := 4) rfl rfl rfl rfl ?_
  refine jp_store (pc2 := 33) (n := 5) rfl rfl ⟨rfl, rfl⟩ rfl (Nat.le_of_ble_eq_true rfl) ?_
  exact K
theorem c21_33 {r_0 : Nat} {r_1 : Nat} {a_2 : Nat} {a_3 : Nat} {a_4 : Nat} {a_5 : Nat} {fs1 : List Value} {q_fs1_3 : Nat} {n4 : Nat} {f5 : Nat → Int32} {v9 : Nat} (e2 : h r_1 = some (.inr (6, fs1))) (e3 : fs1[3]? = some (.ref q_fs1_3)) (e6 : h q_fs1_3 = some (.inl (0, n4, .inl f5))) (b7 : a_2 < n4) (c8 : n4 < 2147483648) (e10 : f5 a_2 = nI v9) (c11 : a_5 < 2147483648) (c12 : v9 < 2147483648) (K1 : a_5 ≤ v9 → ip sc call 21 MC MS Q 101 [some (.ref r_0), some (.ref r_1), some (.int (nI a_2)), some (.int (nI a_3)), some (.int (nI a_4)), some (.int (nI a_5))] [] h z c s) (K2 : ¬ (a_5 ≤ v9) → ip sc call 21 MC MS Q 44 [some (.ref r_0), some (.ref r_1), some (.int (nI a_2)), some (.int (nI a_3)), some (.int (nI a_4)), some (.int (nI a_5))] [] h z c s) : ip sc call 21 MC MS Q 33 [some (.ref r_0), some (.ref r_1), some (.int (nI a_2)), some (.int (nI a_3)), some (.int (nI a_4)), some (.int (nI a_5))] [] h z c s := by
  refine jp_load (pc2 := 35) (n := 5) rfl rfl rfl rfl ?_
  refine jp_load (pc2 := 36) (n := 1) rfl rfl rfl rfl ?_
  refine jp_getf (pc2 := 39) rfl rfl e2 e3 ?_
  refine jp_load (pc2 := 40) (n := 2) rfl rfl rfl rfl ?_
  refine jp_iald (pc2 := 41) rfl rfl e6 (vp_in_nI b7 c8) ?_
  rw [(nI_clamp (Nat.lt_trans b7 c8))]
  rw [e10]
  exact jp_icmp (pc2 := 44) rfl rfl (fun q => K1 ((nI_leI c11 c12).mp q)) (fun q => K2 (fun r => q ((nI_leI c11 c12).mpr r)))
theorem c21_44 {r_0 : Nat} {r_1 : Nat} {a_2 : Nat} {a_3 : Nat} {a_4 : Nat} {a_5 : Nat} {fs1 : List Value} {q_fs1_4 : Nat} {q_fs1_3 : Nat} {n6 : Nat} {f7 : Nat → Int32} {v11 : Nat} {n13 : Nat} {f14 : Nat → Int64} (e2 : h r_0 = some (.inr (3, fs1))) (e3 : fs1[4]? = some (.ref q_fs1_4)) (e4 : fs1[3]? = some (.ref q_fs1_3)) (d5 : 1 ≤ (a_3 + a_5)) (e8 : h q_fs1_3 = some (.inl (0, n6, .inl f7))) (b9 : (a_3 + a_5) - 1 < n6) (c10 : n6 < 2147483648) (e12 : f7 ((a_3 + a_5) - 1) = nI v11) (e15 : h q_fs1_4 = some (.inl (1, n13, .inr (.inl f14)))) (b16 : a_3 + v11 < n13) (c17 : n13 < 2147483648) (b18 : a_3 + a_4 < n13) (K1 : (lg_cmp (f14 (a_3 + v11)) (f14 (a_3 + a_4))) ≤ 0 → ip sc call 21 MC MS Q 101 [some (.ref r_0), some (.ref r_1), some (.int (nI a_2)), some (.int (nI a_3)), some (.int (nI a_4)), some (.int (nI a_5))] [] h z c s) (K2 : ¬ ((lg_cmp (f14 (a_3 + v11)) (f14 (a_3 + a_4))) ≤ 0) → ip sc call 21 MC MS Q 75 [some (.ref r_0), some (.ref r_1), some (.int (nI a_2)), some (.int (nI a_3)), some (.int (nI a_4)), some (.int (nI a_5))] [] h z c s) : ip sc call 21 MC MS Q 44 [some (.ref r_0), some (.ref r_1), some (.int (nI a_2)), some (.int (nI a_3)), some (.int (nI a_4)), some (.int (nI a_5))] [] h z c s := by
  refine jp_load (pc2 := 45) (n := 0) rfl rfl rfl rfl ?_
  refine jp_getf (pc2 := 48) rfl rfl e2 e3 ?_
  refine jp_load (pc2 := 49) (n := 3) rfl rfl rfl rfl ?_
  refine jp_load (pc2 := 50) (n := 0) rfl rfl rfl rfl ?_
  refine jp_getf (pc2 := 53) rfl rfl e2 e4 ?_
  refine jp_load (pc2 := 54) (n := 3) rfl rfl rfl rfl ?_
  refine jp_load (pc2 := 56) (n := 5) rfl rfl rfl rfl ?_
  refine jp_bin (pc2 := 57) (v := nI (a_3 + a_5)) rfl rfl (congrArg some (nI_add _ _)) ?_
  refine jp_con (pc2 := 58) (v := (.int (nI 1))) rfl rfl rfl ?_
  refine jp_bin (pc2 := 59) (v := nI ((a_3 + a_5) - 1)) rfl rfl (congrArg some (pk_sub d5)) ?_
  refine jp_iald (pc2 := 60) rfl rfl e8 (vp_in_nI b9 c10) ?_
  rw [(nI_clamp (Nat.lt_trans b9 c10))]
  rw [e12]
  refine jp_bin (pc2 := 61) (v := nI (a_3 + v11)) rfl rfl (congrArg some (nI_add _ _)) ?_
  refine jp_lald (pc2 := 62) rfl rfl e15 (vp_in_nI b16 c17) ?_
  rw [(nI_clamp (Nat.lt_trans b16 c17))]
  refine jp_load (pc2 := 63) (n := 0) rfl rfl rfl rfl ?_
  refine jp_getf (pc2 := 66) rfl rfl e2 e3 ?_
  refine jp_load (pc2 := 67) (n := 3) rfl rfl rfl rfl ?_
  refine jp_load (pc2 := 69) (n := 4) rfl rfl rfl rfl ?_
  refine jp_bin (pc2 := 70) (v := nI (a_3 + a_4)) rfl rfl (congrArg some (nI_add _ _)) ?_
  refine jp_lald (pc2 := 71) rfl rfl e15 (vp_in_nI b18 c17) ?_
  rw [(nI_clamp (Nat.lt_trans b18 c17))]
  refine jp_lcmp (pc2 := 72) rfl rfl ?_
  exact jp_if0 (pc2 := 75) rfl rfl K1 K2
theorem c21_75 {r_0 : Nat} {r_1 : Nat} {a_2 : Nat} {a_3 : Nat} {a_4 : Nat} {a_5 : Nat} {fs1 : List Value} {q_fs1_3 : Nat} {n5 : Nat} {f6 : Nat → Int32} {v10 : Nat} {g13 : Nat → Int32} (e2 : h r_0 = some (.inr (3, fs1))) (e3 : fs1[3]? = some (.ref q_fs1_3)) (d4 : 1 ≤ (a_3 + a_5)) (e7 : h q_fs1_3 = some (.inl (0, n5, .inl f6))) (b8 : (a_3 + a_5) - 1 < n5) (c9 : n5 < 2147483648) (e11 : f6 ((a_3 + a_5) - 1) = nI v10) (b12 : a_3 + a_5 < n5) (d14 : upd f6 (a_3 + a_5) (nI v10) = g13) (d15 : 1 ≤ a_5) (K : ip sc call 21 MC MS Q 33 [some (.ref r_0), some (.ref r_1), some (.int (nI a_2)), some (.int (nI a_3)), some (.int (nI a_4)), some (.int (nI (a_5 - 1)))] [] (hup h q_fs1_3 (.inl (0, n5, .inl g13))) z c s) : ip sc call 21 MC MS Q 75 [some (.ref r_0), some (.ref r_1), some (.int (nI a_2)), some (.int (nI a_3)), some (.int (nI a_4)), some (.int (nI a_5))] [] h z c s := by
  refine jp_load (pc2 := 76) (n := 0) rfl rfl rfl rfl ?_
  refine jp_getf (pc2 := 79) rfl rfl e2 e3 ?_
  refine jp_load (pc2 := 80) (n := 3) rfl rfl rfl rfl ?_
  refine jp_load (pc2 := 82) (n := 5) rfl rfl rfl rfl ?_
  refine jp_bin (pc2 := 83) (v := nI (a_3 + a_5)) rfl rfl (congrArg some (nI_add _ _)) ?_
  refine jp_load (pc2 := 84) (n := 0) rfl rfl rfl rfl ?_
  refine jp_getf (pc2 := 87) rfl rfl e2 e3 ?_
  refine jp_load (pc2 := 88) (n := 3) rfl rfl rfl rfl ?_
  refine jp_load (pc2 := 90) (n := 5) rfl rfl rfl rfl ?_
  refine jp_bin (pc2 := 91) (v := nI (a_3 + a_5)) rfl rfl (congrArg some (nI_add _ _)) ?_
  refine jp_con (pc2 := 92) (v := (.int (nI 1))) rfl rfl rfl ?_
  refine jp_bin (pc2 := 93) (v := nI ((a_3 + a_5) - 1)) rfl rfl (congrArg some (pk_sub d4)) ?_
  refine jp_iald (pc2 := 94) rfl rfl e7 (vp_in_nI b8 c9) ?_
  rw [(nI_clamp (Nat.lt_trans b8 c9))]
  rw [e11]
  refine jp_iast (pc2 := 95) rfl rfl e7 (vp_in_nI b12 c9) ?_
  rw [(nI_clamp (Nat.lt_trans b12 c9))]
  rw [d14]
  refine jp_iinc (pc2 := 98) (n := 5) (v := nI (a_5 - 1)) rfl rfl rfl (nI_dec d15) rfl ?_
  refine ip_goto rfl ?_
  exact K
theorem c21_101 {r_0 : Nat} {r_1 : Nat} {a_2 : Nat} {a_3 : Nat} {a_4 : Nat} {a_5 : Nat} {fs1 : List Value} {q_fs1_3 : Nat} {n4 : Nat} {f5 : Nat → Int32} {g9 : Nat → Int32} (e2 : h r_0 = some (.inr (3, fs1))) (e3 : fs1[3]? = some (.ref q_fs1_3)) (e6 : h q_fs1_3 = some (.inl (0, n4, .inl f5))) (b7 : a_3 + a_5 < n4) (c8 : n4 < 2147483648) (d10 : upd f5 (a_3 + a_5) (nI a_4) = g9) (K : ip sc call 21 MC MS Q 8 [some (.ref r_0), some (.ref r_1), some (.int (nI a_2)), some (.int (nI a_3)), some (.int (nI (a_4 + 1))), some (.int (nI a_5))] [] (hup h q_fs1_3 (.inl (0, n4, .inl g9))) z c s) : ip sc call 21 MC MS Q 101 [some (.ref r_0), some (.ref r_1), some (.int (nI a_2)), some (.int (nI a_3)), some (.int (nI a_4)), some (.int (nI a_5))] [] h z c s := by
  refine jp_load (pc2 := 102) (n := 0) rfl rfl rfl rfl ?_
  refine jp_getf (pc2 := 105) rfl rfl e2 e3 ?_
  refine jp_load (pc2 := 106) (n := 3) rfl rfl rfl rfl ?_
  refine jp_load (pc2 := 108) (n := 5) rfl rfl rfl rfl ?_
  refine jp_bin (pc2 := 109) (v := nI (a_3 + a_5)) rfl rfl (congrArg some (nI_add _ _)) ?_
  refine jp_load (pc2 := 111) (n := 4) rfl rfl rfl rfl ?_
  refine jp_iast (pc2 := 112) rfl rfl e6 (vp_in_nI b7 c8) ?_
  rw [(nI_clamp (Nat.lt_trans b7 c8))]
  rw [d10]
  refine jp_iinc (pc2 := 115) (n := 4) (v := nI (a_4 + 1)) rfl rfl rfl (nI_add _ 1) rfl ?_
  refine ip_goto rfl ?_
  exact K
theorem c21_118 {o_0 : Option Value} {o_1 : Option Value} {o_2 : Option Value} {o_3 : Option Value} {o_4 : Option Value} {o_5 : Option Value} (q1 : Q none h z)  : ip sc call 21 MC MS Q 118 [o_0, o_1, o_2, o_3, o_4, o_5] [] h z c s := by
  exact ip_vret (st := []) rfl rfl q1
theorem c22_0 {r_0 : Nat} {r_1 : Nat} {a_2 : Nat} {a_3 : Nat} {a_4 : Nat} {o_5 : Option Value} {o_6 : Option Value} {o_7 : Option Value} {o_8 : Option Value} {o_9 : Option Value} {o_10 : Option Value} {o_11 : Option Value} {fs1 : List Value} {q_fs1_6 : Nat} {n4 : Nat} {f5 : Nat → Int32} {v9 : Nat} {fs11 : List Value} {P : ipQ} (e2 : h r_0 = some (.inr (3, fs1))) (e3 : fs1[6]? = some (.ref q_fs1_6)) (e6 : h q_fs1_6 = some (.inl (0, n4, .inl f5))) (b7 : a_2 < n4) (c8 : n4 < 2147483648) (e10 : f5 a_2 = nI v9) (e12 : h r_1 = some (.inr (6, fs11))) (m13 : c ≤ MC) (m14 : s ≤ MS) (hc : call 39 [(.ref r_1), (.int (nI a_2))] h z 0 0 P) (K : ∀ (o : Option Value) (h2 : HP) (z2 : Nat), P o h2 z2 → ip sc call 22 MC MS Q 13 [some (.ref r_0), some (.ref r_1), some (.int (nI a_2)), some (.int (nI a_3)), some (.int (nI a_4)), some (.int (nI v9)), o_6, o_7, o_8, o_9, o_10, o_11] (o.toList ++ []) h2 z2 c s) : ip sc call 22 MC MS Q 0 [some (.ref r_0), some (.ref r_1), some (.int (nI a_2)), some (.int (nI a_3)), some (.int (nI a_4)), o_5, o_6, o_7, o_8, o_9, o_10, o_11] [] h z c s := by
  refine jp_load (pc2 := 1) (n := 0) rfl rfl rfl rfl ?_
  refine jp_getf (pc2 := 4) rfl rfl e2 e3 ?_
  refine jp_load (pc2 := 5) (n := 2) rfl rfl rfl rfl ?_
  refine jp_iald (pc2 := 6) rfl rfl e6 (vp_in_nI b7 c8) ?_
  rw [(nI_clamp (Nat.lt_trans b7 c8))]
  rw [e10]
  refine jp_store (pc2 := 8) (n := 5) rfl rfl ⟨rfl, rfl⟩ rfl (Nat.le_of_ble_eq_true rfl) ?_
  refine jp_load (pc2 := 9) (n := 1) rfl rfl rfl rfl ?_
  refine jp_load (pc2 := 10) (n := 2) rfl rfl rfl rfl ?_
  exact jp_virt0 (pc2 := 13) (As := [(.int (nI a_2))]) (rest := []) rfl rfl rfl (Nat.le_of_ble_eq_true rfl) e12 m13 m14 hc rfl K
theorem c22_13 {r_0 : Nat} {r_1 : Nat} {a_2 : Nat} {a_3 : Nat} {a_4 : Nat} {a_5 : Nat} {o_6 : Option Value} {o_7 : Option Value} {o_8 : Option Value} {o_9 : Option Value} {o_10 : Option Value} {o_11 : Option Value} {sa_0 : Nat} {fs1 : List Value} {P : ipQ} (e2 : h r_1 = some (.inr (6, fs1))) (m3 : c ≤ MC) (m4 : s ≤ MS) (hc : call 39 [(.ref r_1), (.int (nI a_3))] h z 0 0 P) (K : ∀ (o : Option Value) (h2 : HP) (z2 : Nat), P o h2 z2 → ip sc call 22 MC MS Q 22 [some (.ref r_0), some (.ref r_1), some (.int (nI a_2)), some (.int (nI a_3)), some (.int (nI a_4)), some (.int (nI a_5)), some (.int (nI sa_0)), o_7, o_8, o_9, o_10, o_11] (o.toList ++ [(.int (nI sa_0))]) h2 z2 c s) : ip sc call 22 MC MS Q 13 [some (.ref r_0), some (.ref r_1), some (.int (nI a_2)), some (.int (nI a_3)), some (.int (nI a_4)), some (.int (nI a_5)), o_6, o_7, o_8, o_9, o_10, o_11] [(.int (nI sa_0))] h z c s := by
  refine jp_store (pc2 := 15) (n := 6) rfl rfl ⟨rfl, rfl⟩ rfl (Nat.le_of_ble_eq_true rfl) ?_
  refine jp_load (pc2 := 17) (n := 6) rfl rfl rfl rfl ?_
  refine jp_load (pc2 := 18) (n := 1) rfl rfl rfl rfl ?_
  refine jp_load (pc2 := 19) (n := 3) rfl rfl rfl rfl ?_
  exact jp_virt0 (pc2 := 22) (As := [(.int (nI a_3))]) (rest := [(.int (nI sa_0))]) rfl rfl rfl (Nat.le_of_ble_eq_true rfl) e2 m3 m4 hc rfl K
theorem c22_22 {r_0 : Nat} {r_1 : Nat} {a_2 : Nat} {a_3 : Nat} {a_4 : Nat} {a_5 : Nat} {a_6 : Nat} {o_7 : Option Value} {o_8 : Option Value} {o_9 : Option Value} {o_10 : Option Value} {o_11 : Option Value} {sa_0 : Nat} {sa_1 : Nat} (c1 : sa_0 < 2147483648) (c2 : sa_1 < 2147483648) (K1 : sa_0 = sa_1 → ip sc call 22 MC MS Q 34 [some (.ref r_0), some (.ref r_1), some (.int (nI a_2)), some (.int (nI a_3)), some (.int (nI a_4)), some (.int (nI a_5)), some (.int (nI a_6)), o_7, o_8, o_9, o_10, o_11] [] h z c s) (K2 : ¬ (sa_0 = sa_1) → ip sc call 22 MC MS Q 25 [some (.ref r_0), some (.ref r_1), some (.int (nI a_2)), some (.int (nI a_3)), some (.int (nI a_4)), some (.int (nI a_5)), some (.int (nI a_6)), o_7, o_8, o_9, o_10, o_11] [] h z c s) : ip sc call 22 MC MS Q 22 [some (.ref r_0), some (.ref r_1), some (.int (nI a_2)), some (.int (nI a_3)), some (.int (nI a_4)), some (.int (nI a_5)), some (.int (nI a_6)), o_7, o_8, o_9, o_10, o_11] [(.int (nI sa_1)), (.int (nI sa_0))] h z c s := by
  exact jp_icmp (pc2 := 25) rfl rfl (fun q => K1 ((nI_eq c1 c2).mp q)) (fun q => K2 (fun r => q ((nI_eq c1 c2).mpr r)))
theorem c22_25 {o_0 : Option Value} {r_1 : Nat} {o_2 : Option Value} {a_3 : Nat} {o_4 : Option Value} {o_5 : Option Value} {a_6 : Nat} {o_7 : Option Value} {o_8 : Option Value} {o_9 : Option Value} {o_10 : Option Value} {o_11 : Option Value} {fs1 : List Value} {P : ipQ} (e2 : h r_1 = some (.inr (6, fs1))) (m3 : c ≤ MC) (m4 : s ≤ MS) (hc : call 39 [(.ref r_1), (.int (nI a_3))] h z 0 0 P) (K : ∀ (o : Option Value) (h2 : HP) (z2 : Nat), P o h2 z2 → ip sc call 22 MC MS Q 32 [o_0, some (.ref r_1), o_2, some (.int (nI a_3)), o_4, o_5, some (.int (nI a_6)), o_7, o_8, o_9, o_10, o_11] (o.toList ++ [(.int (nI a_6))]) h2 z2 c s) : ip sc call 22 MC MS Q 25 [o_0, some (.ref r_1), o_2, some (.int (nI a_3)), o_4, o_5, some (.int (nI a_6)), o_7, o_8, o_9, o_10, o_11] [] h z c s := by
  refine jp_load (pc2 := 27) (n := 6) rfl rfl rfl rfl ?_
  refine jp_load (pc2 := 28) (n := 1) rfl rfl rfl rfl ?_
  refine jp_load (pc2 := 29) (n := 3) rfl rfl rfl rfl ?_
  exact jp_virt0 (pc2 := 32) (As := [(.int (nI a_3))]) (rest := [(.int (nI a_6))]) rfl rfl rfl (Nat.le_of_ble_eq_true rfl) e2 m3 m4 hc rfl K
theorem c22_32 {o_0 : Option Value} {o_1 : Option Value} {o_2 : Option Value} {o_3 : Option Value} {o_4 : Option Value} {o_5 : Option Value} {o_6 : Option Value} {o_7 : Option Value} {o_8 : Option Value} {o_9 : Option Value} {o_10 : Option Value} {o_11 : Option Value} {sa_0 : Nat} {sa_1 : Nat} (d1 : sa_1 ≤ sa_0) (q2 : Q (some (.int (nI (sa_0 - sa_1)))) h z)  : ip sc call 22 MC MS Q 32 [o_0, o_1, o_2, o_3, o_4, o_5, o_6, o_7, o_8, o_9, o_10, o_11] [(.int (nI sa_1)), (.int (nI sa_0))] h z c s := by
  refine jp_bin (pc2 := 33) (v := nI (sa_0 - sa_1)) rfl rfl (congrArg some (pk_sub d1)) ?_
  exact ip_iret (st := []) rfl rfl rfl q2
theorem c22_34 {r_0 : Nat} {r_1 : Nat} {a_2 : Nat} {a_3 : Nat} {a_4 : Nat} {a_5 : Nat} {a_6 : Nat} {o_7 : Option Value} {o_8 : Option Value} {o_9 : Option Value} {o_10 : Option Value} {o_11 : Option Value}  (K : ip sc call 22 MC MS Q 37 [some (.ref r_0), some (.ref r_1), some (.int (nI a_2)), some (.int (nI a_3)), some (.int (nI a_4)), some (.int (nI a_5)), some (.int (nI a_6)), some (.int (nI 0)), o_8, o_9, o_10, o_11] [] h z c s) : ip sc call 22 MC MS Q 34 [some (.ref r_0), some (.ref r_1), some (.int (nI a_2)), some (.int (nI a_3)), some (.int (nI a_4)), some (.int (nI a_5)), some (.int (nI a_6)), o_7, o_8, o_9, o_10, o_11] [] h z c s := by
  refine jp_con (pc2 := 35) (v := (.int (nI 0))) rfl rfl rfl ?_
  refine jp_store (pc2 := 37) (n := 7) rfl rfl ⟨rfl, rfl⟩ rfl (Nat.le_of_ble_eq_true rfl) ?_
  exact K
theorem c22_37 {r_0 : Nat} {r_1 : Nat} {a_2 : Nat} {a_3 : Nat} {a_4 : Nat} {a_5 : Nat} {a_6 : Nat} {a_7 : Nat} {o_8 : Option Value} {o_9 : Option Value} {o_10 : Option Value} {o_11 : Option Value} (c1 : a_7 < 2147483648) (c2 : a_6 < 2147483648) (K1 : a_6 ≤ a_7 → ip sc call 22 MC MS Q 126 [some (.ref r_0), some (.ref r_1), some (.int (nI a_2)), some (.int (nI a_3)), some (.int (nI a_4)), some (.int (nI a_5)), some (.int (nI a_6)), some (.int (nI a_7)), o_8, o_9, o_10, o_11] [] h z c s) (K2 : ¬ (a_6 ≤ a_7) → ip sc call 22 MC MS Q 44 [some (.ref r_0), some (.ref r_1), some (.int (nI a_2)), some (.int (nI a_3)), some (.int (nI a_4)), some (.int (nI a_5)), some (.int (nI a_6)), some (.int (nI a_7)), o_8, o_9, o_10, o_11] [] h z c s) : ip sc call 22 MC MS Q 37 [some (.ref r_0), some (.ref r_1), some (.int (nI a_2)), some (.int (nI a_3)), some (.int (nI a_4)), some (.int (nI a_5)), some (.int (nI a_6)), some (.int (nI a_7)), o_8, o_9, o_10, o_11] [] h z c s := by
  refine jp_load (pc2 := 39) (n := 7) rfl rfl rfl rfl ?_
  refine jp_load (pc2 := 41) (n := 6) rfl rfl rfl rfl ?_
  exact jp_icmp (pc2 := 44) rfl rfl (fun q => K1 ((nI_leI c2 c1).mp q)) (fun q => K2 (fun r => q ((nI_leI c2 c1).mpr r)))
theorem c22_44 {r_0 : Nat} {r_1 : Nat} {a_2 : Nat} {a_3 : Nat} {a_4 : Nat} {a_5 : Nat} {a_6 : Nat} {a_7 : Nat} {o_8 : Option Value} {o_9 : Option Value} {o_10 : Option Value} {o_11 : Option Value} {fs1 : List Value} {q_fs1_4 : Nat} {q_fs1_3 : Nat} {fs5 : List Value} {q_fs5_3 : Nat} {n8 : Nat} {f9 : Nat → Int32} {v13 : Nat} {n15 : Nat} {f16 : Nat → Int32} {v20 : Nat} {n22 : Nat} {f23 : Nat → Int64} {v28 : Nat} {v31 : Nat} (e2 : h r_0 = some (.inr (3, fs1))) (e3 : fs1[4]? = some (.ref q_fs1_4)) (e4 : fs1[3]? = some (.ref q_fs1_3)) (e6 : h r_1 = some (.inr (6, fs5))) (e7 : fs5[3]? = some (.ref q_fs5_3)) (e10 : h q_fs5_3 = some (.inl (0, n8, .inl f9))) (b11 : a_2 < n8) (c12 : n8 < 2147483648) (e14 : f9 a_2 = nI v13) (e17 : h q_fs1_3 = some (.inl (0, n15, .inl f16))) (b18 : (a_5 + v13) + a_7 < n15) (c19 : n15 < 2147483648) (e21 : f16 ((a_5 + v13) + a_7) = nI v20) (e24 : h q_fs1_4 = some (.inl (1, n22, .inr (.inl f23)))) (b25 : a_5 + v20 < n22) (c26 : n22 < 2147483648) (b27 : a_3 < n8) (e29 : f9 a_3 = nI v28) (b30 : (a_4 + v28) + a_7 < n15) (e32 : f16 ((a_4 + v28) + a_7) = nI v31) (b33 : a_4 + v31 < n22) (k34 : ip2 none = false) (K1 : (lg_cmp (f23 (a_5 + v20)) (f23 (a_4 + v31))) = 0 → ip sc call 22 MC MS Q 120 [some (.ref r_0), some (.ref r_1), some (.int (nI a_2)), some (.int (nI a_3)), some (.int (nI a_4)), some (.int (nI a_5)), some (.int (nI a_6)), some (.int (nI a_7)), some (.long (f23 (a_5 + v20))), none, some (.long (f23 (a_4 + v31))), none] [] h z c s) (K2 : ¬ ((lg_cmp (f23 (a_5 + v20)) (f23 (a_4 + v31))) = 0) → ip sc call 22 MC MS Q 106 [some (.ref r_0), some (.ref r_1), some (.int (nI a_2)), some (.int (nI a_3)), some (.int (nI a_4)), some (.int (nI a_5)), some (.int (nI a_6)), some (.int (nI a_7)), some (.long (f23 (a_5 + v20))), none, some (.long (f23 (a_4 + v31))), none] [] h z c s) : ip sc call 22 MC MS Q 44 [some (.ref r_0), some (.ref r_1), some (.int (nI a_2)), some (.int (nI a_3)), some (.int (nI a_4)), some (.int (nI a_5)), some (.int (nI a_6)), some (.int (nI a_7)), o_8, o_9, o_10, o_11] [] h z c s := by
  refine jp_load (pc2 := 45) (n := 0) rfl rfl rfl rfl ?_
  refine jp_getf (pc2 := 48) rfl rfl e2 e3 ?_
  refine jp_load (pc2 := 50) (n := 5) rfl rfl rfl rfl ?_
  refine jp_load (pc2 := 51) (n := 0) rfl rfl rfl rfl ?_
  refine jp_getf (pc2 := 54) rfl rfl e2 e4 ?_
  refine jp_load (pc2 := 56) (n := 5) rfl rfl rfl rfl ?_
  refine jp_load (pc2 := 57) (n := 1) rfl rfl rfl rfl ?_
  refine jp_getf (pc2 := 60) rfl rfl e6 e7 ?_
  refine jp_load (pc2 := 61) (n := 2) rfl rfl rfl rfl ?_
  refine jp_iald (pc2 := 62) rfl rfl e10 (vp_in_nI b11 c12) ?_
  rw [(nI_clamp (Nat.lt_trans b11 c12))]
  rw [e14]
  refine jp_bin (pc2 := 63) (v := nI (a_5 + v13)) rfl rfl (congrArg some (nI_add _ _)) ?_
  refine jp_load (pc2 := 65) (n := 7) rfl rfl rfl rfl ?_
  refine jp_bin (pc2 := 66) (v := nI ((a_5 + v13) + a_7)) rfl rfl (congrArg some (nI_add _ _)) ?_
  refine jp_iald (pc2 := 67) rfl rfl e17 (vp_in_nI b18 c19) ?_
  rw [(nI_clamp (Nat.lt_trans b18 c19))]
  rw [e21]
  refine jp_bin (pc2 := 68) (v := nI (a_5 + v20)) rfl rfl (congrArg some (nI_add _ _)) ?_
  refine jp_lald (pc2 := 69) rfl rfl e24 (vp_in_nI b25 c26) ?_
  rw [(nI_clamp (Nat.lt_trans b25 c26))]
  refine jp_store2 (pc2 := 71) (n := 8) rfl rfl ⟨rfl, rfl⟩ rfl (Nat.le_of_ble_eq_true rfl) ?_
  refine jp_load (pc2 := 72) (n := 0) rfl rfl rfl rfl ?_
  refine jp_getf (pc2 := 75) rfl rfl e2 e3 ?_
  refine jp_load (pc2 := 77) (n := 4) rfl rfl rfl rfl ?_
  refine jp_load (pc2 := 78) (n := 0) rfl rfl rfl rfl ?_
  refine jp_getf (pc2 := 81) rfl rfl e2 e4 ?_
  refine jp_load (pc2 := 83) (n := 4) rfl rfl rfl rfl ?_
  refine jp_load (pc2 := 84) (n := 1) rfl rfl rfl rfl ?_
  refine jp_getf (pc2 := 87) rfl rfl e6 e7 ?_
  refine jp_load (pc2 := 88) (n := 3) rfl rfl rfl rfl ?_
  refine jp_iald (pc2 := 89) rfl rfl e10 (vp_in_nI b27 c12) ?_
  rw [(nI_clamp (Nat.lt_trans b27 c12))]
  rw [e29]
  refine jp_bin (pc2 := 90) (v := nI (a_4 + v28)) rfl rfl (congrArg some (nI_add _ _)) ?_
  refine jp_load (pc2 := 92) (n := 7) rfl rfl rfl rfl ?_
  refine jp_bin (pc2 := 93) (v := nI ((a_4 + v28) + a_7)) rfl rfl (congrArg some (nI_add _ _)) ?_
  refine jp_iald (pc2 := 94) rfl rfl e17 (vp_in_nI b30 c19) ?_
  rw [(nI_clamp (Nat.lt_trans b30 c19))]
  rw [e32]
  refine jp_bin (pc2 := 95) (v := nI (a_4 + v31)) rfl rfl (congrArg some (nI_add _ _)) ?_
  refine jp_lald (pc2 := 96) rfl rfl e24 (vp_in_nI b33 c26) ?_
  rw [(nI_clamp (Nat.lt_trans b33 c26))]
  refine jp_store2 (pc2 := 98) (n := 10) rfl rfl ⟨rfl, rfl⟩ k34 (Nat.le_of_ble_eq_true rfl) ?_
  refine jp_load (pc2 := 100) (n := 8) rfl rfl rfl rfl ?_
  refine jp_load (pc2 := 102) (n := 10) rfl rfl rfl rfl ?_
  refine jp_lcmp (pc2 := 103) rfl rfl ?_
  exact jp_if0 (pc2 := 106) rfl rfl K1 K2
theorem c22_106 {o_0 : Option Value} {o_1 : Option Value} {o_2 : Option Value} {o_3 : Option Value} {o_4 : Option Value} {o_5 : Option Value} {o_6 : Option Value} {o_7 : Option Value} {y_8 : Int64} {o_9 : Option Value} {y_10 : Int64} {o_11 : Option Value}  (K1 : (0 : Int32) ≤ (lg_cmp y_8 y_10) → ip sc call 22 MC MS Q 118 [o_0, o_1, o_2, o_3, o_4, o_5, o_6, o_7, some (.long y_8), o_9, some (.long y_10), o_11] [] h z c s) (K2 : ¬ ((0 : Int32) ≤ (lg_cmp y_8 y_10)) → ip sc call 22 MC MS Q 114 [o_0, o_1, o_2, o_3, o_4, o_5, o_6, o_7, some (.long y_8), o_9, some (.long y_10), o_11] [] h z c s) : ip sc call 22 MC MS Q 106 [o_0, o_1, o_2, o_3, o_4, o_5, o_6, o_7, some (.long y_8), o_9, some (.long y_10), o_11] [] h z c s := by
  refine jp_load (pc2 := 108) (n := 8) rfl rfl rfl rfl ?_
  refine jp_load (pc2 := 110) (n := 10) rfl rfl rfl rfl ?_
  refine jp_lcmp (pc2 := 111) rfl rfl ?_
  exact jp_if0 (pc2 := 114) rfl rfl K1 K2
theorem c22_114 {o_0 : Option Value} {o_1 : Option Value} {o_2 : Option Value} {o_3 : Option Value} {o_4 : Option Value} {o_5 : Option Value} {o_6 : Option Value} {o_7 : Option Value} {o_8 : Option Value} {o_9 : Option Value} {o_10 : Option Value} {o_11 : Option Value}  (K : ip sc call 22 MC MS Q 119 [o_0, o_1, o_2, o_3, o_4, o_5, o_6, o_7, o_8, o_9, o_10, o_11] [(.int ((-1)))] h z c s) : ip sc call 22 MC MS Q 114 [o_0, o_1, o_2, o_3, o_4, o_5, o_6, o_7, o_8, o_9, o_10, o_11] [] h z c s := by
  refine jp_con (pc2 := 115) (v := (.int ((-1)))) rfl rfl rfl ?_
  refine ip_goto rfl ?_
  exact K
theorem c22_118 {o_0 : Option Value} {o_1 : Option Value} {o_2 : Option Value} {o_3 : Option Value} {o_4 : Option Value} {o_5 : Option Value} {o_6 : Option Value} {o_7 : Option Value} {o_8 : Option Value} {o_9 : Option Value} {o_10 : Option Value} {o_11 : Option Value}  (K : ip sc call 22 MC MS Q 119 [o_0, o_1, o_2, o_3, o_4, o_5, o_6, o_7, o_8, o_9, o_10, o_11] [(.int (nI 1))] h z c s) : ip sc call 22 MC MS Q 118 [o_0, o_1, o_2, o_3, o_4, o_5, o_6, o_7, o_8, o_9, o_10, o_11] [] h z c s := by
  refine jp_con (pc2 := 119) (v := (.int (nI 1))) rfl rfl rfl ?_
  exact K
theorem c22_119 {o_0 : Option Value} {o_1 : Option Value} {o_2 : Option Value} {o_3 : Option Value} {o_4 : Option Value} {o_5 : Option Value} {o_6 : Option Value} {o_7 : Option Value} {o_8 : Option Value} {o_9 : Option Value} {o_10 : Option Value} {o_11 : Option Value} {sa_0 : Nat} (q1 : Q (some (.int (nI sa_0))) h z)  : ip sc call 22 MC MS Q 119 [o_0, o_1, o_2, o_3, o_4, o_5, o_6, o_7, o_8, o_9, o_10, o_11] [(.int (nI sa_0))] h z c s := by
  exact ip_iret (st := []) rfl rfl rfl q1
theorem c22_120 {r_0 : Nat} {r_1 : Nat} {a_2 : Nat} {a_3 : Nat} {a_4 : Nat} {a_5 : Nat} {a_6 : Nat} {a_7 : Nat} {o_8 : Option Value} {o_9 : Option Value} {o_10 : Option Value} {o_11 : Option Value}  (K : ip sc call 22 MC MS Q 37 [some (.ref r_0), some (.ref r_1), some (.int (nI a_2)), some (.int (nI a_3)), some (.int (nI a_4)), some (.int (nI a_5)), some (.int (nI a_6)), some (.int (nI (a_7 + 1))), o_8, o_9, o_10, o_11] [] h z c s) : ip sc call 22 MC MS Q 120 [some (.ref r_0), some (.ref r_1), some (.int (nI a_2)), some (.int (nI a_3)), some (.int (nI a_4)), some (.int (nI a_5)), some (.int (nI a_6)), some (.int (nI a_7)), o_8, o_9, o_10, o_11] [] h z c s := by
  refine jp_iinc (pc2 := 123) (n := 7) (v := nI (a_7 + 1)) rfl rfl rfl (nI_add _ 1) rfl ?_
  refine ip_goto rfl ?_
  exact K
theorem c22_126 {o_0 : Option Value} {o_1 : Option Value} {o_2 : Option Value} {o_3 : Option Value} {o_4 : Option Value} {o_5 : Option Value} {o_6 : Option Value} {o_7 : Option Value} {o_8 : Option Value} {o_9 : Option Value} {o_10 : Option Value} {o_11 : Option Value} (q1 : Q (some (.int (nI 0))) h z)  : ip sc call 22 MC MS Q 126 [o_0, o_1, o_2, o_3, o_4, o_5, o_6, o_7, o_8, o_9, o_10, o_11] [] h z c s := by
  refine jp_con (pc2 := 127) (v := (.int (nI 0))) rfl rfl rfl ?_
  exact ip_iret (st := []) rfl rfl rfl q1
theorem c23_0 {r_0 : Nat} {r_1 : Nat} {a_2 : Nat} {a_3 : Nat} {o_4 : Option Value} {o_5 : Option Value} {o_6 : Option Value} {o_7 : Option Value} {o_8 : Option Value} {o_9 : Option Value} {o_10 : Option Value} {o_11 : Option Value} {o_12 : Option Value} {o_13 : Option Value} {o_14 : Option Value} {fs1 : List Value} {q_fs1_2 : Nat} {n4 : Nat} {f5 : Nat → Int32} {v9 : Nat} {P : ipQ} (e2 : h r_1 = some (.inr (6, fs1))) (e3 : fs1[2]? = some (.ref q_fs1_2)) (e6 : h q_fs1_2 = some (.inl (0, n4, .inl f5))) (b7 : a_2 < n4) (c8 : n4 < 2147483648) (e10 : f5 a_2 = nI v9) (m11 : c ≤ MC) (m12 : s ≤ MS) (hc : call 41 [(.ref r_1), (.int (nI a_2))] h z 0 0 P) (K : ∀ (o : Option Value) (h2 : HP) (z2 : Nat), P o h2 z2 → ip sc call 23 MC MS Q 13 [some (.ref r_0), some (.ref r_1), some (.int (nI a_2)), some (.int (nI a_3)), some (.int (nI v9)), o_5, o_6, o_7, o_8, o_9, o_10, o_11, o_12, o_13, o_14] (o.toList ++ []) h2 z2 c s) : ip sc call 23 MC MS Q 0 [some (.ref r_0), some (.ref r_1), some (.int (nI a_2)), some (.int (nI a_3)), o_4, o_5, o_6, o_7, o_8, o_9, o_10, o_11, o_12, o_13, o_14] [] h z c s := by
  refine jp_load (pc2 := 1) (n := 1) rfl rfl rfl rfl ?_
  refine jp_getf (pc2 := 4) rfl rfl e2 e3 ?_
  refine jp_load (pc2 := 5) (n := 2) rfl rfl rfl rfl ?_
  refine jp_iald (pc2 := 6) rfl rfl e6 (vp_in_nI b7 c8) ?_
  rw [(nI_clamp (Nat.lt_trans b7 c8))]
  rw [e10]
  refine jp_store (pc2 := 8) (n := 4) rfl rfl ⟨rfl, rfl⟩ rfl (Nat.le_of_ble_eq_true rfl) ?_
  refine jp_load (pc2 := 9) (n := 1) rfl rfl rfl rfl ?_
  refine jp_load (pc2 := 10) (n := 2) rfl rfl rfl rfl ?_
  exact jp_virt0 (pc2 := 13) (As := [(.int (nI a_2))]) (rest := []) rfl rfl rfl (Nat.le_of_ble_eq_true rfl) e2 m11 m12 hc rfl K
theorem c23_13 {r_0 : Nat} {r_1 : Nat} {a_2 : Nat} {a_3 : Nat} {a_4 : Nat} {o_5 : Option Value} {o_6 : Option Value} {o_7 : Option Value} {o_8 : Option Value} {o_9 : Option Value} {o_10 : Option Value} {o_11 : Option Value} {o_12 : Option Value} {o_13 : Option Value} {o_14 : Option Value} {sa_0 : Nat} (k1 : ip2 none = false) (K : ip sc call 23 MC MS Q 21 [some (.ref r_0), some (.ref r_1), some (.int (nI a_2)), some (.int (nI a_3)), some (.int (nI a_4)), some (.int (nI sa_0)), some (.long 0), none, some (.int (nI 0)), o_9, o_10, o_11, o_12, o_13, o_14] [] h z c s) : ip sc call 23 MC MS Q 13 [some (.ref r_0), some (.ref r_1), some (.int (nI a_2)), some (.int (nI a_3)), some (.int (nI a_4)), o_5, o_6, o_7, o_8, o_9, o_10, o_11, o_12, o_13, o_14] [(.int (nI sa_0))] h z c s := by
  refine jp_store (pc2 := 15) (n := 5) rfl rfl ⟨rfl, rfl⟩ rfl (Nat.le_of_ble_eq_true rfl) ?_
  refine jp_con (pc2 := 16) (v := .long 0) rfl rfl rfl ?_
  refine jp_store2 (pc2 := 18) (n := 6) rfl rfl ⟨rfl, rfl⟩ rfl (Nat.le_of_ble_eq_true rfl) ?_
  refine jp_con (pc2 := 19) (v := (.int (nI 0))) rfl rfl rfl ?_
  refine jp_store (pc2 := 21) (n := 8) rfl rfl ⟨rfl, rfl⟩ k1 (Nat.le_of_ble_eq_true rfl) ?_
  exact K
theorem c23_21 {r_0 : Nat} {r_1 : Nat} {a_2 : Nat} {a_3 : Nat} {a_4 : Nat} {a_5 : Nat} {y_6 : Int64} {o_7 : Option Value} {a_8 : Nat} {o_9 : Option Value} {o_10 : Option Value} {o_11 : Option Value} {o_12 : Option Value} {o_13 : Option Value} {o_14 : Option Value} (c1 : a_8 < 2147483648) (c2 : a_5 < 2147483648) (K1 : a_5 ≤ a_8 → ip sc call 23 MC MS Q 78 [some (.ref r_0), some (.ref r_1), some (.int (nI a_2)), some (.int (nI a_3)), some (.int (nI a_4)), some (.int (nI a_5)), some (.long y_6), o_7, some (.int (nI a_8)), o_9, o_10, o_11, o_12, o_13, o_14] [] h z c s) (K2 : ¬ (a_5 ≤ a_8) → ip sc call 23 MC MS Q 28 [some (.ref r_0), some (.ref r_1), some (.int (nI a_2)), some (.int (nI a_3)), some (.int (nI a_4)), some (.int (nI a_5)), some (.long y_6), o_7, some (.int (nI a_8)), o_9, o_10, o_11, o_12, o_13, o_14] [] h z c s) : ip sc call 23 MC MS Q 21 [some (.ref r_0), some (.ref r_1), some (.int (nI a_2)), some (.int (nI a_3)), some (.int (nI a_4)), some (.int (nI a_5)), some (.long y_6), o_7, some (.int (nI a_8)), o_9, o_10, o_11, o_12, o_13, o_14] [] h z c s := by
  refine jp_load (pc2 := 23) (n := 8) rfl rfl rfl rfl ?_
  refine jp_load (pc2 := 25) (n := 5) rfl rfl rfl rfl ?_
  exact jp_icmp (pc2 := 28) rfl rfl (fun q => K1 ((nI_leI c2 c1).mp q)) (fun q => K2 (fun r => q ((nI_leI c2 c1).mpr r)))
theorem c23_28 {r_0 : Nat} {r_1 : Nat} {a_2 : Nat} {a_3 : Nat} {a_4 : Nat} {a_5 : Nat} {y_6 : Int64} {o_7 : Option Value} {a_8 : Nat} {o_9 : Option Value} {o_10 : Option Value} {o_11 : Option Value} {o_12 : Option Value} {o_13 : Option Value} {o_14 : Option Value} (c1 : a_3 < 2147483648) (K1 : ¬ a_3 = 0 → ip sc call 23 MC MS Q 40 [some (.ref r_0), some (.ref r_1), some (.int (nI a_2)), some (.int (nI a_3)), some (.int (nI a_4)), some (.int (nI a_5)), some (.long y_6), o_7, some (.int (nI a_8)), o_9, o_10, o_11, o_12, o_13, o_14] [] h z c s) (K2 : ¬ (¬ a_3 = 0) → ip sc call 23 MC MS Q 32 [some (.ref r_0), some (.ref r_1), some (.int (nI a_2)), some (.int (nI a_3)), some (.int (nI a_4)), some (.int (nI a_5)), some (.long y_6), o_7, some (.int (nI a_8)), o_9, o_10, o_11, o_12, o_13, o_14] [] h z c s) : ip sc call 23 MC MS Q 28 [some (.ref r_0), some (.ref r_1), some (.int (nI a_2)), some (.int (nI a_3)), some (.int (nI a_4)), some (.int (nI a_5)), some (.long y_6), o_7, some (.int (nI a_8)), o_9, o_10, o_11, o_12, o_13, o_14] [] h z c s := by
  refine jp_load (pc2 := 29) (n := 3) rfl rfl rfl rfl ?_
  exact jp_if0 (pc2 := 32) rfl rfl (fun q => K1 ((not_congr (nI_eq c1 (by decide))).mp q)) (fun q => K2 (fun r => q ((not_congr (nI_eq c1 (by decide))).mpr r)))
theorem c23_32 {r_0 : Nat} {r_1 : Nat} {a_2 : Nat} {a_3 : Nat} {a_4 : Nat} {a_5 : Nat} {y_6 : Int64} {o_7 : Option Value} {a_8 : Nat} {o_9 : Option Value} {o_10 : Option Value} {o_11 : Option Value} {o_12 : Option Value} {o_13 : Option Value} {o_14 : Option Value}  (K : ip sc call 23 MC MS Q 50 [some (.ref r_0), some (.ref r_1), some (.int (nI a_2)), some (.int (nI a_3)), some (.int (nI a_4)), some (.int (nI a_5)), some (.long y_6), o_7, some (.int (nI a_8)), o_9, o_10, o_11, o_12, o_13, o_14] [(.int (nI (a_4 + a_8)))] h z c s) : ip sc call 23 MC MS Q 32 [some (.ref r_0), some (.ref r_1), some (.int (nI a_2)), some (.int (nI a_3)), some (.int (nI a_4)), some (.int (nI a_5)), some (.long y_6), o_7, some (.int (nI a_8)), o_9, o_10, o_11, o_12, o_13, o_14] [] h z c s := by
  refine jp_load (pc2 := 34) (n := 4) rfl rfl rfl rfl ?_
  refine jp_load (pc2 := 36) (n := 8) rfl rfl rfl rfl ?_
  refine jp_bin (pc2 := 37) (v := nI (a_4 + a_8)) rfl rfl (congrArg some (nI_add _ _)) ?_
  refine ip_goto rfl ?_
  exact K
theorem c23_40 {r_0 : Nat} {r_1 : Nat} {a_2 : Nat} {a_3 : Nat} {a_4 : Nat} {a_5 : Nat} {y_6 : Int64} {o_7 : Option Value} {a_8 : Nat} {o_9 : Option Value} {o_10 : Option Value} {o_11 : Option Value} {o_12 : Option Value} {o_13 : Option Value} {o_14 : Option Value} (d1 : 1 ≤ (a_4 + a_5)) (d2 : a_8 ≤ ((a_4 + a_5) - 1)) (K : ip sc call 23 MC MS Q 50 [some (.ref r_0), some (.ref r_1), some (.int (nI a_2)), some (.int (nI a_3)), some (.int (nI a_4)), some (.int (nI a_5)), some (.long y_6), o_7, some (.int (nI a_8)), o_9, o_10, o_11, o_12, o_13, o_14] [(.int (nI (((a_4 + a_5) - 1) - a_8)))] h z c s) : ip sc call 23 MC MS Q 40 [some (.ref r_0), some (.ref r_1), some (.int (nI a_2)), some (.int (nI a_3)), some (.int (nI a_4)), some (.int (nI a_5)), some (.long y_6), o_7, some (.int (nI a_8)), o_9, o_10, o_11, o_12, o_13, o_14] [] h z c s := by
  refine jp_load (pc2 := 42) (n := 4) rfl rfl rfl rfl ?_
  refine jp_load (pc2 := 44) (n := 5) rfl rfl rfl rfl ?_
  refine jp_bin (pc2 := 45) (v := nI (a_4 + a_5)) rfl rfl (congrArg some (nI_add _ _)) ?_
  refine jp_con (pc2 := 46) (v := (.int (nI 1))) rfl rfl rfl ?_
  refine jp_bin (pc2 := 47) (v := nI ((a_4 + a_5) - 1)) rfl rfl (congrArg some (pk_sub d1)) ?_
  refine jp_load (pc2 := 49) (n := 8) rfl rfl rfl rfl ?_
  refine jp_bin (pc2 := 50) (v := nI (((a_4 + a_5) - 1) - a_8)) rfl rfl (congrArg some (pk_sub d2)) ?_
  exact K
theorem c23_50 {r_0 : Nat} {r_1 : Nat} {a_2 : Nat} {a_3 : Nat} {a_4 : Nat} {a_5 : Nat} {y_6 : Int64} {o_7 : Option Value} {a_8 : Nat} {o_9 : Option Value} {o_10 : Option Value} {o_11 : Option Value} {o_12 : Option Value} {o_13 : Option Value} {o_14 : Option Value} {sa_0 : Nat} {fs1 : List Value} {q_fs1_1 : Nat} {fs4 : List Value} {q_fs4_1 : Nat} {n7 : Nat} {f8 : Nat → Int32} {v12 : Nat} {n14 : Nat} {f15 : Nat → Int32} {v19 : Nat} (e2 : h r_0 = some (.inr (3, fs1))) (e3 : fs1[1]? = some (.ref q_fs1_1)) (e5 : h r_1 = some (.inr (6, fs4))) (e6 : fs4[1]? = some (.ref q_fs4_1)) (e9 : h q_fs4_1 = some (.inl (0, n7, .inl f8))) (b10 : sa_0 < n7) (c11 : n7 < 2147483648) (e13 : f8 sa_0 = nI v12) (e16 : h q_fs1_1 = some (.inl (0, n14, .inl f15))) (b17 : v12 < n14) (c18 : n14 < 2147483648) (e20 : f15 v12 = nI v19) (k21 : ip2 none = false) (K : ip sc call 23 MC MS Q 21 [some (.ref r_0), some (.ref r_1), some (.int (nI a_2)), some (.int (nI a_3)), some (.int (nI a_4)), some (.int (nI a_5)), some (.long ((y_6 <<< ((nI 4).toInt64 &&& 63)) ||| ((nI v19).toInt64))), none, some (.int (nI (a_8 + 1))), some (.int (nI sa_0)), o_10, o_11, o_12, o_13, o_14] [] h z c s) : ip sc call 23 MC MS Q 50 [some (.ref r_0), some (.ref r_1), some (.int (nI a_2)), some (.int (nI a_3)), some (.int (nI a_4)), some (.int (nI a_5)), some (.long y_6), o_7, some (.int (nI a_8)), o_9, o_10, o_11, o_12, o_13, o_14] [(.int (nI sa_0))] h z c s := by
  refine jp_store (pc2 := 52) (n := 9) rfl rfl ⟨rfl, rfl⟩ rfl (Nat.le_of_ble_eq_true rfl) ?_
  refine jp_load (pc2 := 54) (n := 6) rfl rfl rfl rfl ?_
  refine jp_con (pc2 := 55) (v := (.int (nI 4))) rfl rfl rfl ?_
  refine jp_lsh (pc2 := 56) (v := y_6 <<< ((nI 4).toInt64 &&& 63)) rfl rfl rfl ?_
  refine jp_load (pc2 := 57) (n := 0) rfl rfl rfl rfl ?_
  refine jp_getf (pc2 := 60) rfl rfl e2 e3 ?_
  refine jp_load (pc2 := 61) (n := 1) rfl rfl rfl rfl ?_
  refine jp_getf (pc2 := 64) rfl rfl e5 e6 ?_
  refine jp_load (pc2 := 66) (n := 9) rfl rfl rfl rfl ?_
  refine jp_iald (pc2 := 67) rfl rfl e9 (vp_in_nI b10 c11) ?_
  rw [(nI_clamp (Nat.lt_trans b10 c11))]
  rw [e13]
  refine jp_iald (pc2 := 68) rfl rfl e16 (vp_in_nI b17 c18) ?_
  rw [(nI_clamp (Nat.lt_trans b17 c18))]
  rw [e20]
  refine jp_cv (pc2 := 69) (v := (.long ((nI v19).toInt64))) rfl rfl rfl ?_
  refine jp_lbin (pc2 := 70) (v := (y_6 <<< ((nI 4).toInt64 &&& 63)) ||| ((nI v19).toInt64)) rfl rfl rfl ?_
  refine jp_store2 (pc2 := 72) (n := 6) rfl rfl ⟨rfl, rfl⟩ rfl (Nat.le_of_ble_eq_true rfl) ?_
  refine jp_iinc (pc2 := 75) (n := 8) (v := nI (a_8 + 1)) rfl rfl rfl (nI_add _ 1) k21 ?_
  refine ip_goto rfl ?_
  exact K
theorem c23_78 {r_0 : Nat} {o_1 : Option Value} {a_2 : Nat} {a_3 : Nat} {o_4 : Option Value} {a_5 : Nat} {y_6 : Int64} {o_7 : Option Value} {o_8 : Option Value} {o_9 : Option Value} {o_10 : Option Value} {o_11 : Option Value} {o_12 : Option Value} {o_13 : Option Value} {o_14 : Option Value} (d1 : 1 ≤ a_5) (k2 : ip2 o_7 = false) (k3 : ip2 none = false) (K : ip sc call 23 MC MS Q 96 [some (.ref r_0), o_1, some (.int (nI a_2)), some (.int (nI a_3)), o_4, some (.int (nI a_5)), some (.long y_6), o_7, some (.int (nI (4 * (a_5 - 1)))), some (.long y_6), none, some (.int (nI 0)), some (.int (nI 1)), o_13, o_14] [] h z c s) : ip sc call 23 MC MS Q 78 [some (.ref r_0), o_1, some (.int (nI a_2)), some (.int (nI a_3)), o_4, some (.int (nI a_5)), some (.long y_6), o_7, o_8, o_9, o_10, o_11, o_12, o_13, o_14] [] h z c s := by
  refine jp_con (pc2 := 79) (v := (.int (nI 4))) rfl rfl rfl ?_
  refine jp_load (pc2 := 81) (n := 5) rfl rfl rfl rfl ?_
  refine jp_con (pc2 := 82) (v := (.int (nI 1))) rfl rfl rfl ?_
  refine jp_bin (pc2 := 83) (v := nI (a_5 - 1)) rfl rfl (congrArg some (pk_sub d1)) ?_
  refine jp_bin (pc2 := 84) (v := nI (4 * (a_5 - 1))) rfl rfl (congrArg some (pk_mul _ _)) ?_
  refine jp_store (pc2 := 86) (n := 8) rfl rfl ⟨rfl, rfl⟩ k2 (Nat.le_of_ble_eq_true rfl) ?_
  refine jp_load (pc2 := 88) (n := 6) rfl rfl rfl rfl ?_
  refine jp_store2 (pc2 := 90) (n := 9) rfl rfl ⟨rfl, rfl⟩ rfl (Nat.le_of_ble_eq_true rfl) ?_
  refine jp_con (pc2 := 91) (v := (.int (nI 0))) rfl rfl rfl ?_
  refine jp_store (pc2 := 93) (n := 11) rfl rfl ⟨rfl, rfl⟩ k3 (Nat.le_of_ble_eq_true rfl) ?_
  refine jp_con (pc2 := 94) (v := (.int (nI 1))) rfl rfl rfl ?_
  refine jp_store (pc2 := 96) (n := 12) rfl rfl ⟨rfl, rfl⟩ rfl (Nat.le_of_ble_eq_true rfl) ?_
  exact K
theorem c23_96 {r_0 : Nat} {o_1 : Option Value} {a_2 : Nat} {a_3 : Nat} {o_4 : Option Value} {a_5 : Nat} {y_6 : Int64} {o_7 : Option Value} {a_8 : Nat} {y_9 : Int64} {o_10 : Option Value} {a_11 : Nat} {a_12 : Nat} {o_13 : Option Value} {o_14 : Option Value} (c1 : a_12 < 2147483648) (c2 : a_5 < 2147483648) (K1 : a_5 ≤ a_12 → ip sc call 23 MC MS Q 147 [some (.ref r_0), o_1, some (.int (nI a_2)), some (.int (nI a_3)), o_4, some (.int (nI a_5)), some (.long y_6), o_7, some (.int (nI a_8)), some (.long y_9), o_10, some (.int (nI a_11)), some (.int (nI a_12)), o_13, o_14] [] h z c s) (K2 : ¬ (a_5 ≤ a_12) → ip sc call 23 MC MS Q 103 [some (.ref r_0), o_1, some (.int (nI a_2)), some (.int (nI a_3)), o_4, some (.int (nI a_5)), some (.long y_6), o_7, some (.int (nI a_8)), some (.long y_9), o_10, some (.int (nI a_11)), some (.int (nI a_12)), o_13, o_14] [] h z c s) : ip sc call 23 MC MS Q 96 [some (.ref r_0), o_1, some (.int (nI a_2)), some (.int (nI a_3)), o_4, some (.int (nI a_5)), some (.long y_6), o_7, some (.int (nI a_8)), some (.long y_9), o_10, some (.int (nI a_11)), some (.int (nI a_12)), o_13, o_14] [] h z c s := by
  refine jp_load (pc2 := 98) (n := 12) rfl rfl rfl rfl ?_
  refine jp_load (pc2 := 100) (n := 5) rfl rfl rfl rfl ?_
  exact jp_icmp (pc2 := 103) rfl rfl (fun q => K1 ((nI_leI c2 c1).mp q)) (fun q => K2 (fun r => q ((nI_leI c2 c1).mpr r)))
theorem c23_103 {r_0 : Nat} {o_1 : Option Value} {a_2 : Nat} {a_3 : Nat} {o_4 : Option Value} {a_5 : Nat} {y_6 : Int64} {o_7 : Option Value} {a_8 : Nat} {y_9 : Int64} {o_10 : Option Value} {a_11 : Nat} {a_12 : Nat} {o_13 : Option Value} {o_14 : Option Value}  (K1 : (0 : Int32) ≤ (lg_cmp (((y_6 ^^^ (((y_6.toUInt64 >>> ((nI a_8).toInt64.toUInt64 &&& Int64.toUInt64 63)).toInt64) <<< ((nI a_8).toInt64 &&& 63))) <<< ((nI 4).toInt64 &&& 63)) ||| ((y_6.toUInt64 >>> ((nI a_8).toInt64.toUInt64 &&& Int64.toUInt64 63)).toInt64)) y_9) → ip sc call 23 MC MS Q 141 [some (.ref r_0), o_1, some (.int (nI a_2)), some (.int (nI a_3)), o_4, some (.int (nI a_5)), some (.long (((y_6 ^^^ (((y_6.toUInt64 >>> ((nI a_8).toInt64.toUInt64 &&& Int64.toUInt64 63)).toInt64) <<< ((nI a_8).toInt64 &&& 63))) <<< ((nI 4).toInt64 &&& 63)) ||| ((y_6.toUInt64 >>> ((nI a_8).toInt64.toUInt64 &&& Int64.toUInt64 63)).toInt64))), none, some (.int (nI a_8)), some (.long y_9), o_10, some (.int (nI a_11)), some (.int (nI a_12)), some (.long ((y_6.toUInt64 >>> ((nI a_8).toInt64.toUInt64 &&& Int64.toUInt64 63)).toInt64)), none] [] h z c s) (K2 : ¬ ((0 : Int32) ≤ (lg_cmp (((y_6 ^^^ (((y_6.toUInt64 >>> ((nI a_8).toInt64.toUInt64 &&& Int64.toUInt64 63)).toInt64) <<< ((nI a_8).toInt64 &&& 63))) <<< ((nI 4).toInt64 &&& 63)) ||| ((y_6.toUInt64 >>> ((nI a_8).toInt64.toUInt64 &&& Int64.toUInt64 63)).toInt64)) y_9)) → ip sc call 23 MC MS Q 133 [some (.ref r_0), o_1, some (.int (nI a_2)), some (.int (nI a_3)), o_4, some (.int (nI a_5)), some (.long (((y_6 ^^^ (((y_6.toUInt64 >>> ((nI a_8).toInt64.toUInt64 &&& Int64.toUInt64 63)).toInt64) <<< ((nI a_8).toInt64 &&& 63))) <<< ((nI 4).toInt64 &&& 63)) ||| ((y_6.toUInt64 >>> ((nI a_8).toInt64.toUInt64 &&& Int64.toUInt64 63)).toInt64))), none, some (.int (nI a_8)), some (.long y_9), o_10, some (.int (nI a_11)), some (.int (nI a_12)), some (.long ((y_6.toUInt64 >>> ((nI a_8).toInt64.toUInt64 &&& Int64.toUInt64 63)).toInt64)), none] [] h z c s) : ip sc call 23 MC MS Q 103 [some (.ref r_0), o_1, some (.int (nI a_2)), some (.int (nI a_3)), o_4, some (.int (nI a_5)), some (.long y_6), o_7, some (.int (nI a_8)), some (.long y_9), o_10, some (.int (nI a_11)), some (.int (nI a_12)), o_13, o_14] [] h z c s := by
  refine jp_load (pc2 := 105) (n := 6) rfl rfl rfl rfl ?_
  refine jp_load (pc2 := 107) (n := 8) rfl rfl rfl rfl ?_
  refine jp_lsh (pc2 := 108) (v := (y_6.toUInt64 >>> ((nI a_8).toInt64.toUInt64 &&& Int64.toUInt64 63)).toInt64) rfl rfl rfl ?_
  refine jp_store2 (pc2 := 110) (n := 13) rfl rfl ⟨rfl, rfl⟩ rfl (Nat.le_of_ble_eq_true rfl) ?_
  refine jp_load (pc2 := 112) (n := 6) rfl rfl rfl rfl ?_
  refine jp_load (pc2 := 114) (n := 13) rfl rfl rfl rfl ?_
  refine jp_load (pc2 := 116) (n := 8) rfl rfl rfl rfl ?_
  refine jp_lsh (pc2 := 117) (v := ((y_6.toUInt64 >>> ((nI a_8).toInt64.toUInt64 &&& Int64.toUInt64 63)).toInt64) <<< ((nI a_8).toInt64 &&& 63)) rfl rfl rfl ?_
  refine jp_lbin (pc2 := 118) (v := y_6 ^^^ (((y_6.toUInt64 >>> ((nI a_8).toInt64.toUInt64 &&& Int64.toUInt64 63)).toInt64) <<< ((nI a_8).toInt64 &&& 63))) rfl rfl rfl ?_
  refine jp_con (pc2 := 119) (v := (.int (nI 4))) rfl rfl rfl ?_
  refine jp_lsh (pc2 := 120) (v := (y_6 ^^^ (((y_6.toUInt64 >>> ((nI a_8).toInt64.toUInt64 &&& Int64.toUInt64 63)).toInt64) <<< ((nI a_8).toInt64 &&& 63))) <<< ((nI 4).toInt64 &&& 63)) rfl rfl rfl ?_
  refine jp_load (pc2 := 122) (n := 13) rfl rfl rfl rfl ?_
  refine jp_lbin (pc2 := 123) (v := ((y_6 ^^^ (((y_6.toUInt64 >>> ((nI a_8).toInt64.toUInt64 &&& Int64.toUInt64 63)).toInt64) <<< ((nI a_8).toInt64 &&& 63))) <<< ((nI 4).toInt64 &&& 63)) ||| ((y_6.toUInt64 >>> ((nI a_8).toInt64.toUInt64 &&& Int64.toUInt64 63)).toInt64)) rfl rfl rfl ?_
  refine jp_store2 (pc2 := 125) (n := 6) rfl rfl ⟨rfl, rfl⟩ rfl (Nat.le_of_ble_eq_true rfl) ?_
  refine jp_load (pc2 := 127) (n := 6) rfl rfl rfl rfl ?_
  refine jp_load (pc2 := 129) (n := 9) rfl rfl rfl rfl ?_
  refine jp_lcmp (pc2 := 130) rfl rfl ?_
  exact jp_if0 (pc2 := 133) rfl rfl K1 K2
theorem c23_133 {r_0 : Nat} {o_1 : Option Value} {a_2 : Nat} {a_3 : Nat} {o_4 : Option Value} {a_5 : Nat} {y_6 : Int64} {o_7 : Option Value} {a_8 : Nat} {o_9 : Option Value} {o_10 : Option Value} {o_11 : Option Value} {a_12 : Nat} {o_13 : Option Value} {o_14 : Option Value} (k1 : ip2 none = false) (K : ip sc call 23 MC MS Q 141 [some (.ref r_0), o_1, some (.int (nI a_2)), some (.int (nI a_3)), o_4, some (.int (nI a_5)), some (.long y_6), o_7, some (.int (nI a_8)), some (.long y_6), none, some (.int (nI a_12)), some (.int (nI a_12)), o_13, o_14] [] h z c s) : ip sc call 23 MC MS Q 133 [some (.ref r_0), o_1, some (.int (nI a_2)), some (.int (nI a_3)), o_4, some (.int (nI a_5)), some (.long y_6), o_7, some (.int (nI a_8)), o_9, o_10, o_11, some (.int (nI a_12)), o_13, o_14] [] h z c s := by
  refine jp_load (pc2 := 135) (n := 6) rfl rfl rfl rfl ?_
  refine jp_store2 (pc2 := 137) (n := 9) rfl rfl ⟨rfl, rfl⟩ rfl (Nat.le_of_ble_eq_true rfl) ?_
  refine jp_load (pc2 := 139) (n := 12) rfl rfl rfl rfl ?_
  refine jp_store (pc2 := 141) (n := 11) rfl rfl ⟨rfl, rfl⟩ k1 (Nat.le_of_ble_eq_true rfl) ?_
  exact K
theorem c23_141 {r_0 : Nat} {o_1 : Option Value} {a_2 : Nat} {a_3 : Nat} {o_4 : Option Value} {a_5 : Nat} {y_6 : Int64} {o_7 : Option Value} {a_8 : Nat} {y_9 : Int64} {o_10 : Option Value} {a_11 : Nat} {a_12 : Nat} {o_13 : Option Value} {o_14 : Option Value}  (K : ip sc call 23 MC MS Q 96 [some (.ref r_0), o_1, some (.int (nI a_2)), some (.int (nI a_3)), o_4, some (.int (nI a_5)), some (.long y_6), o_7, some (.int (nI a_8)), some (.long y_9), o_10, some (.int (nI a_11)), some (.int (nI (a_12 + 1))), o_13, o_14] [] h z c s) : ip sc call 23 MC MS Q 141 [some (.ref r_0), o_1, some (.int (nI a_2)), some (.int (nI a_3)), o_4, some (.int (nI a_5)), some (.long y_6), o_7, some (.int (nI a_8)), some (.long y_9), o_10, some (.int (nI a_11)), some (.int (nI a_12)), o_13, o_14] [] h z c s := by
  refine jp_iinc (pc2 := 144) (n := 12) (v := nI (a_12 + 1)) rfl rfl rfl (nI_add _ 1) rfl ?_
  refine ip_goto rfl ?_
  exact K
theorem c23_147 {r_0 : Nat} {o_1 : Option Value} {a_2 : Nat} {a_3 : Nat} {o_4 : Option Value} {a_5 : Nat} {o_6 : Option Value} {o_7 : Option Value} {o_8 : Option Value} {y_9 : Int64} {o_10 : Option Value} {a_11 : Nat} {o_12 : Option Value} {o_13 : Option Value} {o_14 : Option Value} {fs1 : List Value} {q_fs1_4 : Nat} {n4 : Nat} {f5 : Nat → Int64} {g9 : Nat → Int64} {q_fs1_5 : Nat} (e2 : h r_0 = some (.inr (3, fs1))) (e3 : fs1[4]? = some (.ref q_fs1_4)) (e6 : h q_fs1_4 = some (.inl (1, n4, .inr (.inl f5)))) (b7 : a_3 + a_2 < n4) (c8 : n4 < 2147483648) (d10 : vp_updL f5 (a_3 + a_2) y_9 = g9) (n11 : r_0 ≠ q_fs1_4) (e12 : fs1[5]? = some (.ref q_fs1_5)) (c13 : a_3 < 2147483648) (K1 : ¬ a_3 = 0 → ip sc call 23 MC MS Q 173 [some (.ref r_0), o_1, some (.int (nI a_2)), some (.int (nI a_3)), o_4, some (.int (nI a_5)), o_6, o_7, o_8, some (.long y_9), o_10, some (.int (nI a_11)), o_12, o_13, o_14] [(.int (nI (a_3 + a_2))), (.ref q_fs1_5)] (hup h q_fs1_4 (.inl (1, n4, .inr (.inl g9)))) z c s) (K2 : ¬ (¬ a_3 = 0) → ip sc call 23 MC MS Q 168 [some (.ref r_0), o_1, some (.int (nI a_2)), some (.int (nI a_3)), o_4, some (.int (nI a_5)), o_6, o_7, o_8, some (.long y_9), o_10, some (.int (nI a_11)), o_12, o_13, o_14] [(.int (nI (a_3 + a_2))), (.ref q_fs1_5)] (hup h q_fs1_4 (.inl (1, n4, .inr (.inl g9)))) z c s) : ip sc call 23 MC MS Q 147 [some (.ref r_0), o_1, some (.int (nI a_2)), some (.int (nI a_3)), o_4, some (.int (nI a_5)), o_6, o_7, o_8, some (.long y_9), o_10, some (.int (nI a_11)), o_12, o_13, o_14] [] h z c s := by
  refine jp_load (pc2 := 148) (n := 0) rfl rfl rfl rfl ?_
  refine jp_getf (pc2 := 151) rfl rfl e2 e3 ?_
  refine jp_load (pc2 := 152) (n := 3) rfl rfl rfl rfl ?_
  refine jp_load (pc2 := 153) (n := 2) rfl rfl rfl rfl ?_
  refine jp_bin (pc2 := 154) (v := nI (a_3 + a_2)) rfl rfl (congrArg some (nI_add _ _)) ?_
  refine jp_load (pc2 := 156) (n := 9) rfl rfl rfl rfl ?_
  refine jp_last (pc2 := 157) rfl rfl e6 (vp_in_nI b7 c8) ?_
  rw [(nI_clamp (Nat.lt_trans b7 c8))]
  rw [d10]
  refine jp_load (pc2 := 158) (n := 0) rfl rfl rfl rfl ?_
  refine jp_getf (pc2 := 161) rfl rfl (hup_ne n11 e2) e12 ?_
  refine jp_load (pc2 := 162) (n := 3) rfl rfl rfl rfl ?_
  refine jp_load (pc2 := 163) (n := 2) rfl rfl rfl rfl ?_
  refine jp_bin (pc2 := 164) (v := nI (a_3 + a_2)) rfl rfl (congrArg some (nI_add _ _)) ?_
  refine jp_load (pc2 := 165) (n := 3) rfl rfl rfl rfl ?_
  exact jp_if0 (pc2 := 168) rfl rfl (fun q => K1 ((not_congr (nI_eq c13 (by decide))).mp q)) (fun q => K2 (fun r => q ((not_congr (nI_eq c13 (by decide))).mpr r)))
theorem c23_168 {o_0 : Option Value} {o_1 : Option Value} {o_2 : Option Value} {o_3 : Option Value} {o_4 : Option Value} {o_5 : Option Value} {o_6 : Option Value} {o_7 : Option Value} {o_8 : Option Value} {o_9 : Option Value} {o_10 : Option Value} {a_11 : Nat} {o_12 : Option Value} {o_13 : Option Value} {o_14 : Option Value} {sr_0 : Nat} {sa_1 : Nat}  (K : ip sc call 23 MC MS Q 180 [o_0, o_1, o_2, o_3, o_4, o_5, o_6, o_7, o_8, o_9, o_10, some (.int (nI a_11)), o_12, o_13, o_14] [(.int (nI a_11)), (.int (nI sa_1)), (.ref sr_0)] h z c s) : ip sc call 23 MC MS Q 168 [o_0, o_1, o_2, o_3, o_4, o_5, o_6, o_7, o_8, o_9, o_10, some (.int (nI a_11)), o_12, o_13, o_14] [(.int (nI sa_1)), (.ref sr_0)] h z c s := by
  refine jp_load (pc2 := 170) (n := 11) rfl rfl rfl rfl ?_
  refine ip_goto rfl ?_
  exact K
theorem c23_173 {o_0 : Option Value} {o_1 : Option Value} {o_2 : Option Value} {o_3 : Option Value} {o_4 : Option Value} {a_5 : Nat} {o_6 : Option Value} {o_7 : Option Value} {o_8 : Option Value} {o_9 : Option Value} {o_10 : Option Value} {a_11 : Nat} {o_12 : Option Value} {o_13 : Option Value} {o_14 : Option Value} {sr_0 : Nat} {sa_1 : Nat} (d1 : 1 ≤ a_5) (d2 : a_11 ≤ (a_5 - 1)) (K : ip sc call 23 MC MS Q 180 [o_0, o_1, o_2, o_3, o_4, some (.int (nI a_5)), o_6, o_7, o_8, o_9, o_10, some (.int (nI a_11)), o_12, o_13, o_14] [(.int (nI ((a_5 - 1) - a_11))), (.int (nI sa_1)), (.ref sr_0)] h z c s) : ip sc call 23 MC MS Q 173 [o_0, o_1, o_2, o_3, o_4, some (.int (nI a_5)), o_6, o_7, o_8, o_9, o_10, some (.int (nI a_11)), o_12, o_13, o_14] [(.int (nI sa_1)), (.ref sr_0)] h z c s := by
  refine jp_load (pc2 := 175) (n := 5) rfl rfl rfl rfl ?_
  refine jp_con (pc2 := 176) (v := (.int (nI 1))) rfl rfl rfl ?_
  refine jp_bin (pc2 := 177) (v := nI (a_5 - 1)) rfl rfl (congrArg some (pk_sub d1)) ?_
  refine jp_load (pc2 := 179) (n := 11) rfl rfl rfl rfl ?_
  refine jp_bin (pc2 := 180) (v := nI ((a_5 - 1) - a_11)) rfl rfl (congrArg some (pk_sub d2)) ?_
  exact K
theorem c23_180 {o_0 : Option Value} {o_1 : Option Value} {o_2 : Option Value} {o_3 : Option Value} {o_4 : Option Value} {o_5 : Option Value} {o_6 : Option Value} {o_7 : Option Value} {o_8 : Option Value} {o_9 : Option Value} {o_10 : Option Value} {o_11 : Option Value} {o_12 : Option Value} {o_13 : Option Value} {o_14 : Option Value} {sr_0 : Nat} {sa_1 : Nat} {sa_2 : Nat} {n1 : Nat} {f2 : Nat → Int32} {g6 : Nat → Int32} (e3 : h sr_0 = some (.inl (0, n1, .inl f2))) (b4 : sa_1 < n1) (c5 : n1 < 2147483648) (d7 : upd f2 sa_1 (nI sa_2) = g6) (q8 : Q none (hup h sr_0 (.inl (0, n1, .inl g6))) z)  : ip sc call 23 MC MS Q 180 [o_0, o_1, o_2, o_3, o_4, o_5, o_6, o_7, o_8, o_9, o_10, o_11, o_12, o_13, o_14] [(.int (nI sa_2)), (.int (nI sa_1)), (.ref sr_0)] h z c s := by
  refine jp_iast (pc2 := 181) rfl rfl e3 (vp_in_nI b4 c5) ?_
  rw [(nI_clamp (Nat.lt_trans b4 c5))]
  rw [d7]
  exact ip_vret (st := []) rfl rfl q8
theorem c24_0 {r_0 : Nat} {r_1 : Nat} {o_2 : Option Value} {o_3 : Option Value} {o_4 : Option Value} {o_5 : Option Value} {fs1 : List Value} (e2 : h r_0 = some (.inr (3, fs1))) (l3 : fs1.length = 13) (K : ip sc call 24 MC MS Q 7 [some (.ref r_0), some (.ref r_1), some (.int (nI 0)), o_3, o_4, o_5] [] (hup h r_0 (.inr (3, (fs1.set 10 (.int (nI 0)))))) z c s) : ip sc call 24 MC MS Q 0 [some (.ref r_0), some (.ref r_1), o_2, o_3, o_4, o_5] [] h z c s := by
  refine jp_load (pc2 := 1) (n := 0) rfl rfl rfl rfl ?_
  refine jp_con (pc2 := 2) (v := (.int (nI 0))) rfl rfl rfl ?_
  refine jp_putf (pc2 := 5) rfl rfl e2 (ln_lt l3 (by decide)) ⟨rfl, rfl⟩ ?_
  refine jp_con (pc2 := 6) (v := (.int (nI 0))) rfl rfl rfl ?_
  refine jp_store (pc2 := 7) (n := 2) rfl rfl ⟨rfl, rfl⟩ rfl (Nat.le_of_ble_eq_true rfl) ?_
  exact K
theorem c24_7 {r_0 : Nat} {r_1 : Nat} {a_2 : Nat} {o_3 : Option Value} {o_4 : Option Value} {o_5 : Option Value} {fs1 : List Value} {v_fs1_9 : Nat} (e2 : h r_0 = some (.inr (3, fs1))) (e3 : fs1[9]? = some (.int (nI v_fs1_9))) (c4 : a_2 < 2147483648) (c5 : v_fs1_9 < 2147483648) (K1 : v_fs1_9 ≤ a_2 → ip sc call 24 MC MS Q 98 [some (.ref r_0), some (.ref r_1), some (.int (nI a_2)), o_3, o_4, o_5] [] h z c s) (K2 : ¬ (v_fs1_9 ≤ a_2) → ip sc call 24 MC MS Q 15 [some (.ref r_0), some (.ref r_1), some (.int (nI a_2)), o_3, o_4, o_5] [] h z c s) : ip sc call 24 MC MS Q 7 [some (.ref r_0), some (.ref r_1), some (.int (nI a_2)), o_3, o_4, o_5] [] h z c s := by
  refine jp_load (pc2 := 8) (n := 2) rfl rfl rfl rfl ?_
  refine jp_load (pc2 := 9) (n := 0) rfl rfl rfl rfl ?_
  refine jp_getf (pc2 := 12) rfl rfl e2 e3 ?_
  exact jp_icmp (pc2 := 15) rfl rfl (fun q => K1 ((nI_leI c5 c4).mp q)) (fun q => K2 (fun r => q ((nI_leI c5 c4).mpr r)))
theorem c24_15 {r_0 : Nat} {r_1 : Nat} {a_2 : Nat} {o_3 : Option Value} {o_4 : Option Value} {o_5 : Option Value} {fs1 : List Value} {q_fs1_2 : Nat} {n4 : Nat} {f5 : Nat → Int32} {v9 : Nat} {fs11 : List Value} {q_fs11_3 : Nat} {n14 : Nat} {f15 : Nat → Int32} {v19 : Nat} {v23 : Nat} (e2 : h r_0 = some (.inr (3, fs1))) (e3 : fs1[2]? = some (.ref q_fs1_2)) (e6 : h q_fs1_2 = some (.inl (0, n4, .inl f5))) (b7 : a_2 < n4) (c8 : n4 < 2147483648) (e10 : f5 a_2 = nI v9) (e12 : h r_1 = some (.inr (6, fs11))) (e13 : fs11[3]? = some (.ref q_fs11_3)) (e16 : h q_fs11_3 = some (.inl (0, n14, .inl f15))) (b17 : v9 + 1 < n14) (c18 : n14 < 2147483648) (e20 : f15 (v9 + 1) = nI v19) (d21 : 1 ≤ v19) (b22 : v9 < n14) (e24 : f15 v9 = nI v23) (K : ip sc call 24 MC MS Q 42 [some (.ref r_0), some (.ref r_1), some (.int (nI a_2)), some (.int (nI v9)), some (.int (nI (v19 - 1))), some (.int (nI v23))] [] h z c s) : ip sc call 24 MC MS Q 15 [some (.ref r_0), some (.ref r_1), some (.int (nI a_2)), o_3, o_4, o_5] [] h z c s := by
  refine jp_load (pc2 := 16) (n := 0) rfl rfl rfl rfl ?_
  refine jp_getf (pc2 := 19) rfl rfl e2 e3 ?_
  refine jp_load (pc2 := 20) (n := 2) rfl rfl rfl rfl ?_
  refine jp_iald (pc2 := 21) rfl rfl e6 (vp_in_nI b7 c8) ?_
  rw [(nI_clamp (Nat.lt_trans b7 c8))]
  rw [e10]
  refine jp_store (pc2 := 22) (n := 3) rfl rfl ⟨rfl, rfl⟩ rfl (Nat.le_of_ble_eq_true rfl) ?_
  refine jp_load (pc2 := 23) (n := 1) rfl rfl rfl rfl ?_
  refine jp_getf (pc2 := 26) rfl rfl e12 e13 ?_
  refine jp_load (pc2 := 27) (n := 3) rfl rfl rfl rfl ?_
  refine jp_con (pc2 := 28) (v := (.int (nI 1))) rfl rfl rfl ?_
  refine jp_bin (pc2 := 29) (v := nI (v9 + 1)) rfl rfl (congrArg some (nI_add _ _)) ?_
  refine jp_iald (pc2 := 30) rfl rfl e16 (vp_in_nI b17 c18) ?_
  rw [(nI_clamp (Nat.lt_trans b17 c18))]
  rw [e20]
  refine jp_con (pc2 := 31) (v := (.int (nI 1))) rfl rfl rfl ?_
  refine jp_bin (pc2 := 32) (v := nI (v19 - 1)) rfl rfl (congrArg some (pk_sub d21)) ?_
  refine jp_store (pc2 := 34) (n := 4) rfl rfl ⟨rfl, rfl⟩ rfl (Nat.le_of_ble_eq_true rfl) ?_
  refine jp_load (pc2 := 35) (n := 1) rfl rfl rfl rfl ?_
  refine jp_getf (pc2 := 38) rfl rfl e12 e13 ?_
  refine jp_load (pc2 := 39) (n := 3) rfl rfl rfl rfl ?_
  refine jp_iald (pc2 := 40) rfl rfl e16 (vp_in_nI b22 c18) ?_
  rw [(nI_clamp (Nat.lt_trans b22 c18))]
  rw [e24]
  refine jp_store (pc2 := 42) (n := 5) rfl rfl ⟨rfl, rfl⟩ rfl (Nat.le_of_ble_eq_true rfl) ?_
  exact K
theorem c24_42 {r_0 : Nat} {r_1 : Nat} {a_2 : Nat} {a_3 : Nat} {a_4 : Nat} {a_5 : Nat} (c1 : a_5 < 2147483648) (c2 : a_4 < 2147483648) (K1 : a_4 < a_5 → ip sc call 24 MC MS Q 92 [some (.ref r_0), some (.ref r_1), some (.int (nI a_2)), some (.int (nI a_3)), some (.int (nI a_4)), some (.int (nI a_5))] [] h z c s) (K2 : ¬ (a_4 < a_5) → ip sc call 24 MC MS Q 49 [some (.ref r_0), some (.ref r_1), some (.int (nI a_2)), some (.int (nI a_3)), some (.int (nI a_4)), some (.int (nI a_5))] [] h z c s) : ip sc call 24 MC MS Q 42 [some (.ref r_0), some (.ref r_1), some (.int (nI a_2)), some (.int (nI a_3)), some (.int (nI a_4)), some (.int (nI a_5))] [] h z c s := by
  refine jp_load (pc2 := 44) (n := 5) rfl rfl rfl rfl ?_
  refine jp_load (pc2 := 46) (n := 4) rfl rfl rfl rfl ?_
  exact jp_icmp (pc2 := 49) rfl rfl (fun q => K1 ((nI_ltI c2 c1).mp q)) (fun q => K2 (fun r => q ((nI_ltI c2 c1).mpr r)))
theorem c24_49 {r_0 : Nat} {r_1 : Nat} {a_2 : Nat} {a_3 : Nat} {a_4 : Nat} {a_5 : Nat} {fs1 : List Value} {q_fs1_3 : Nat} {q_fs1_6 : Nat} {n5 : Nat} {f6 : Nat → Int32} {v10 : Nat} {n12 : Nat} {f13 : Nat → Int32} {v17 : Nat} (e2 : h r_0 = some (.inr (3, fs1))) (e3 : fs1[3]? = some (.ref q_fs1_3)) (e4 : fs1[6]? = some (.ref q_fs1_6)) (e7 : h q_fs1_6 = some (.inl (0, n5, .inl f6))) (b8 : a_3 < n5) (c9 : n5 < 2147483648) (e11 : f6 a_3 = nI v10) (e14 : h q_fs1_3 = some (.inl (0, n12, .inl f13))) (b15 : v10 + a_5 < n12) (c16 : n12 < 2147483648) (e18 : f13 (v10 + a_5) = nI v17) (c19 : a_5 < 2147483648) (c20 : a_4 < 2147483648) (K1 : a_4 ≤ a_5 → ip sc call 24 MC MS Q 82 [some (.ref r_0), some (.ref r_1), some (.int (nI a_2)), some (.int (nI a_3)), some (.int (nI a_4)), some (.int (nI a_5))] [(.int (nI v10)), (.int (nI v17)), (.ref r_1), (.ref r_0)] h z c s) (K2 : ¬ (a_4 ≤ a_5) → ip sc call 24 MC MS Q 78 [some (.ref r_0), some (.ref r_1), some (.int (nI a_2)), some (.int (nI a_3)), some (.int (nI a_4)), some (.int (nI a_5))] [(.int (nI v10)), (.int (nI v17)), (.ref r_1), (.ref r_0)] h z c s) : ip sc call 24 MC MS Q 49 [some (.ref r_0), some (.ref r_1), some (.int (nI a_2)), some (.int (nI a_3)), some (.int (nI a_4)), some (.int (nI a_5))] [] h z c s := by
  refine jp_load (pc2 := 50) (n := 0) rfl rfl rfl rfl ?_
  refine jp_load (pc2 := 51) (n := 1) rfl rfl rfl rfl ?_
  refine jp_load (pc2 := 52) (n := 0) rfl rfl rfl rfl ?_
  refine jp_getf (pc2 := 55) rfl rfl e2 e3 ?_
  refine jp_load (pc2 := 56) (n := 0) rfl rfl rfl rfl ?_
  refine jp_getf (pc2 := 59) rfl rfl e2 e4 ?_
  refine jp_load (pc2 := 60) (n := 3) rfl rfl rfl rfl ?_
  refine jp_iald (pc2 := 61) rfl rfl e7 (vp_in_nI b8 c9) ?_
  rw [(nI_clamp (Nat.lt_trans b8 c9))]
  rw [e11]
  refine jp_load (pc2 := 63) (n := 5) rfl rfl rfl rfl ?_
  refine jp_bin (pc2 := 64) (v := nI (v10 + a_5)) rfl rfl (congrArg some (nI_add _ _)) ?_
  refine jp_iald (pc2 := 65) rfl rfl e14 (vp_in_nI b15 c16) ?_
  rw [(nI_clamp (Nat.lt_trans b15 c16))]
  rw [e18]
  refine jp_load (pc2 := 66) (n := 0) rfl rfl rfl rfl ?_
  refine jp_getf (pc2 := 69) rfl rfl e2 e4 ?_
  refine jp_load (pc2 := 70) (n := 3) rfl rfl rfl rfl ?_
  refine jp_iald (pc2 := 71) rfl rfl e7 (vp_in_nI b8 c9) ?_
  rw [(nI_clamp (Nat.lt_trans b8 c9))]
  rw [e11]
  refine jp_load (pc2 := 73) (n := 5) rfl rfl rfl rfl ?_
  refine jp_load (pc2 := 75) (n := 4) rfl rfl rfl rfl ?_
  exact jp_icmp (pc2 := 78) rfl rfl (fun q => K1 ((nI_leI c20 c19).mp q)) (fun q => K2 (fun r => q ((nI_leI c20 c19).mpr r)))
theorem c24_78 {r_0 : Nat} {r_1 : Nat} {a_2 : Nat} {a_3 : Nat} {a_4 : Nat} {a_5 : Nat} {sr_0 : Nat} {sr_1 : Nat} {sa_2 : Nat} {sa_3 : Nat}  (K : ip sc call 24 MC MS Q 83 [some (.ref r_0), some (.ref r_1), some (.int (nI a_2)), some (.int (nI a_3)), some (.int (nI a_4)), some (.int (nI a_5))] [(.int (nI 1)), (.int (nI sa_3)), (.int (nI sa_2)), (.ref sr_1), (.ref sr_0)] h z c s) : ip sc call 24 MC MS Q 78 [some (.ref r_0), some (.ref r_1), some (.int (nI a_2)), some (.int (nI a_3)), some (.int (nI a_4)), some (.int (nI a_5))] [(.int (nI sa_3)), (.int (nI sa_2)), (.ref sr_1), (.ref sr_0)] h z c s := by
  refine jp_con (pc2 := 79) (v := (.int (nI 1))) rfl rfl rfl ?_
  refine ip_goto rfl ?_
  exact K
theorem c24_82 {r_0 : Nat} {r_1 : Nat} {a_2 : Nat} {a_3 : Nat} {a_4 : Nat} {a_5 : Nat} {sr_0 : Nat} {sr_1 : Nat} {sa_2 : Nat} {sa_3 : Nat}  (K : ip sc call 24 MC MS Q 83 [some (.ref r_0), some (.ref r_1), some (.int (nI a_2)), some (.int (nI a_3)), some (.int (nI a_4)), some (.int (nI a_5))] [(.int (nI 2)), (.int (nI sa_3)), (.int (nI sa_2)), (.ref sr_1), (.ref sr_0)] h z c s) : ip sc call 24 MC MS Q 82 [some (.ref r_0), some (.ref r_1), some (.int (nI a_2)), some (.int (nI a_3)), some (.int (nI a_4)), some (.int (nI a_5))] [(.int (nI sa_3)), (.int (nI sa_2)), (.ref sr_1), (.ref sr_0)] h z c s := by
  refine jp_con (pc2 := 83) (v := (.int (nI 2))) rfl rfl rfl ?_
  exact K
theorem c24_83 {r_0 : Nat} {r_1 : Nat} {a_2 : Nat} {a_3 : Nat} {a_4 : Nat} {a_5 : Nat} {sr_0 : Nat} {sr_1 : Nat} {sa_2 : Nat} {sa_3 : Nat} {sa_4 : Nat} {fs1 : List Value} {P : ipQ} (e2 : h sr_0 = some (.inr (3, fs1))) (m3 : c ≤ MC) (m4 : s ≤ MS) (hc : call 25 [(.ref sr_0), (.ref sr_1), (.int (nI sa_2)), (.int (nI sa_3)), (.int (nI sa_4))] h z 0 0 P) (K : ∀ (o : Option Value) (h2 : HP) (z2 : Nat), P o h2 z2 → ip sc call 24 MC MS Q 86 [some (.ref r_0), some (.ref r_1), some (.int (nI a_2)), some (.int (nI a_3)), some (.int (nI a_4)), some (.int (nI a_5))] (o.toList ++ []) h2 z2 c s) : ip sc call 24 MC MS Q 83 [some (.ref r_0), some (.ref r_1), some (.int (nI a_2)), some (.int (nI a_3)), some (.int (nI a_4)), some (.int (nI a_5))] [(.int (nI sa_4)), (.int (nI sa_3)), (.int (nI sa_2)), (.ref sr_1), (.ref sr_0)] h z c s := by
  exact jp_virt0 (pc2 := 86) (As := [(.ref sr_1), (.int (nI sa_2)), (.int (nI sa_3)), (.int (nI sa_4))]) (rest := []) rfl rfl rfl (Nat.le_of_ble_eq_true rfl) e2 m3 m4 hc rfl K
theorem c24_86 {r_0 : Nat} {r_1 : Nat} {a_2 : Nat} {a_3 : Nat} {a_4 : Nat} {a_5 : Nat}  (K : ip sc call 24 MC MS Q 42 [some (.ref r_0), some (.ref r_1), some (.int (nI a_2)), some (.int (nI a_3)), some (.int (nI a_4)), some (.int (nI (a_5 + 1)))] [] h z c s) : ip sc call 24 MC MS Q 86 [some (.ref r_0), some (.ref r_1), some (.int (nI a_2)), some (.int (nI a_3)), some (.int (nI a_4)), some (.int (nI a_5))] [] h z c s := by
  refine jp_iinc (pc2 := 89) (n := 5) (v := nI (a_5 + 1)) rfl rfl rfl (nI_add _ 1) rfl ?_
  refine ip_goto rfl ?_
  exact K
theorem c24_92 {r_0 : Nat} {r_1 : Nat} {a_2 : Nat} {o_3 : Option Value} {o_4 : Option Value} {o_5 : Option Value}  (K : ip sc call 24 MC MS Q 7 [some (.ref r_0), some (.ref r_1), some (.int (nI (a_2 + 1))), o_3, o_4, o_5] [] h z c s) : ip sc call 24 MC MS Q 92 [some (.ref r_0), some (.ref r_1), some (.int (nI a_2)), o_3, o_4, o_5] [] h z c s := by
  refine jp_iinc (pc2 := 95) (n := 2) (v := nI (a_2 + 1)) rfl rfl rfl (nI_add _ 1) rfl ?_
  refine ip_goto rfl ?_
  exact K
theorem c24_98 {o_0 : Option Value} {o_1 : Option Value} {o_2 : Option Value} {o_3 : Option Value} {o_4 : Option Value} {o_5 : Option Value} (q1 : Q none h z)  : ip sc call 24 MC MS Q 98 [o_0, o_1, o_2, o_3, o_4, o_5] [] h z c s := by
  exact ip_vret (st := []) rfl rfl q1
theorem c25_0 {r_0 : Nat} {r_1 : Nat} {a_2 : Nat} {a_3 : Nat} {a_4 : Nat} {o_5 : Option Value} {o_6 : Option Value} {o_7 : Option Value} {o_8 : Option Value} {fs1 : List Value} {q_fs1_2 : Nat} {n4 : Nat} {f5 : Nat → Int32} {v9 : Nat} {P : ipQ} (e2 : h r_1 = some (.inr (6, fs1))) (e3 : fs1[2]? = some (.ref q_fs1_2)) (e6 : h q_fs1_2 = some (.inl (0, n4, .inl f5))) (b7 : a_2 < n4) (c8 : n4 < 2147483648) (e10 : f5 a_2 = nI v9) (m11 : c ≤ MC) (m12 : s ≤ MS) (hc : call 41 [(.ref r_1), (.int (nI a_2))] h z 0 0 P) (K : ∀ (o : Option Value) (h2 : HP) (z2 : Nat), P o h2 z2 → ip sc call 25 MC MS Q 13 [some (.ref r_0), some (.ref r_1), some (.int (nI a_2)), some (.int (nI a_3)), some (.int (nI a_4)), some (.int (nI v9)), o_6, o_7, o_8] (o.toList ++ []) h2 z2 c s) : ip sc call 25 MC MS Q 0 [some (.ref r_0), some (.ref r_1), some (.int (nI a_2)), some (.int (nI a_3)), some (.int (nI a_4)), o_5, o_6, o_7, o_8] [] h z c s := by
  refine jp_load (pc2 := 1) (n := 1) rfl rfl rfl rfl ?_
  refine jp_getf (pc2 := 4) rfl rfl e2 e3 ?_
  refine jp_load (pc2 := 5) (n := 2) rfl rfl rfl rfl ?_
  refine jp_iald (pc2 := 6) rfl rfl e6 (vp_in_nI b7 c8) ?_
  rw [(nI_clamp (Nat.lt_trans b7 c8))]
  rw [e10]
  refine jp_store (pc2 := 8) (n := 5) rfl rfl ⟨rfl, rfl⟩ rfl (Nat.le_of_ble_eq_true rfl) ?_
  refine jp_load (pc2 := 9) (n := 1) rfl rfl rfl rfl ?_
  refine jp_load (pc2 := 10) (n := 2) rfl rfl rfl rfl ?_
  exact jp_virt0 (pc2 := 13) (As := [(.int (nI a_2))]) (rest := []) rfl rfl rfl (Nat.le_of_ble_eq_true rfl) e2 m11 m12 hc rfl K
theorem c25_13 {r_0 : Nat} {r_1 : Nat} {a_2 : Nat} {a_3 : Nat} {a_4 : Nat} {a_5 : Nat} {o_6 : Option Value} {o_7 : Option Value} {o_8 : Option Value} {sa_0 : Nat} {fs1 : List Value} {q_fs1_5 : Nat} {n4 : Nat} {f5 : Nat → Int32} {v9 : Nat} (e2 : h r_0 = some (.inr (3, fs1))) (e3 : fs1[5]? = some (.ref q_fs1_5)) (e6 : h q_fs1_5 = some (.inl (0, n4, .inl f5))) (b7 : a_3 + a_2 < n4) (c8 : n4 < 2147483648) (e10 : f5 (a_3 + a_2) = nI v9) (K : ip sc call 25 MC MS Q 28 [some (.ref r_0), some (.ref r_1), some (.int (nI a_2)), some (.int (nI a_3)), some (.int (nI a_4)), some (.int (nI a_5)), some (.int (nI sa_0)), some (.int (nI v9)), some (.int (nI 0))] [] h z c s) : ip sc call 25 MC MS Q 13 [some (.ref r_0), some (.ref r_1), some (.int (nI a_2)), some (.int (nI a_3)), some (.int (nI a_4)), some (.int (nI a_5)), o_6, o_7, o_8] [(.int (nI sa_0))] h z c s := by
  refine jp_store (pc2 := 15) (n := 6) rfl rfl ⟨rfl, rfl⟩ rfl (Nat.le_of_ble_eq_true rfl) ?_
  refine jp_load (pc2 := 16) (n := 0) rfl rfl rfl rfl ?_
  refine jp_getf (pc2 := 19) rfl rfl e2 e3 ?_
  refine jp_load (pc2 := 20) (n := 3) rfl rfl rfl rfl ?_
  refine jp_load (pc2 := 21) (n := 2) rfl rfl rfl rfl ?_
  refine jp_bin (pc2 := 22) (v := nI (a_3 + a_2)) rfl rfl (congrArg some (nI_add _ _)) ?_
  refine jp_iald (pc2 := 23) rfl rfl e6 (vp_in_nI b7 c8) ?_
  rw [(nI_clamp (Nat.lt_trans b7 c8))]
  rw [e10]
  refine jp_store (pc2 := 25) (n := 7) rfl rfl ⟨rfl, rfl⟩ rfl (Nat.le_of_ble_eq_true rfl) ?_
  refine jp_con (pc2 := 26) (v := (.int (nI 0))) rfl rfl rfl ?_
  refine jp_store (pc2 := 28) (n := 8) rfl rfl ⟨rfl, rfl⟩ rfl (Nat.le_of_ble_eq_true rfl) ?_
  exact K
theorem c25_28 {r_0 : Nat} {r_1 : Nat} {o_2 : Option Value} {a_3 : Nat} {a_4 : Nat} {a_5 : Nat} {a_6 : Nat} {a_7 : Nat} {a_8 : Nat} (c1 : a_8 < 2147483648) (c2 : a_6 < 2147483648) (K1 : a_6 ≤ a_8 → ip sc call 25 MC MS Q 138 [some (.ref r_0), some (.ref r_1), o_2, some (.int (nI a_3)), some (.int (nI a_4)), some (.int (nI a_5)), some (.int (nI a_6)), some (.int (nI a_7)), some (.int (nI a_8))] [] h z c s) (K2 : ¬ (a_6 ≤ a_8) → ip sc call 25 MC MS Q 35 [some (.ref r_0), some (.ref r_1), o_2, some (.int (nI a_3)), some (.int (nI a_4)), some (.int (nI a_5)), some (.int (nI a_6)), some (.int (nI a_7)), some (.int (nI a_8))] [] h z c s) : ip sc call 25 MC MS Q 28 [some (.ref r_0), some (.ref r_1), o_2, some (.int (nI a_3)), some (.int (nI a_4)), some (.int (nI a_5)), some (.int (nI a_6)), some (.int (nI a_7)), some (.int (nI a_8))] [] h z c s := by
  refine jp_load (pc2 := 30) (n := 8) rfl rfl rfl rfl ?_
  refine jp_load (pc2 := 32) (n := 6) rfl rfl rfl rfl ?_
  exact jp_icmp (pc2 := 35) rfl rfl (fun q => K1 ((nI_leI c2 c1).mp q)) (fun q => K2 (fun r => q ((nI_leI c2 c1).mpr r)))
theorem c25_35 {r_0 : Nat} {r_1 : Nat} {o_2 : Option Value} {a_3 : Nat} {a_4 : Nat} {a_5 : Nat} {a_6 : Nat} {a_7 : Nat} {a_8 : Nat} {fs1 : List Value} {q_fs1_7 : Nat} {v_fs1_10 : Nat} {fs5 : List Value} {q_fs5_1 : Nat} {n8 : Nat} {f9 : Nat → Int32} {v13 : Nat} {n15 : Nat} {f16 : Nat → Int32} {g20 : Nat → Int32} {q_fs1_8 : Nat} (e2 : h r_0 = some (.inr (3, fs1))) (e3 : fs1[7]? = some (.ref q_fs1_7)) (e4 : fs1[10]? = some (.int (nI v_fs1_10))) (e6 : h r_1 = some (.inr (6, fs5))) (e7 : fs5[1]? = some (.ref q_fs5_1)) (e10 : h q_fs5_1 = some (.inl (0, n8, .inl f9))) (b11 : a_5 + a_7 < n8) (c12 : n8 < 2147483648) (e14 : f9 (a_5 + a_7) = nI v13) (e17 : h q_fs1_7 = some (.inl (0, n15, .inl f16))) (b18 : v_fs1_10 < n15) (c19 : n15 < 2147483648) (d21 : upd f16 v_fs1_10 (nI v13) = g20) (n22 : r_0 ≠ q_fs1_7) (e23 : fs1[8]? = some (.ref q_fs1_8)) (d24 : 1 ≤ a_6) (c25 : a_8 < 2147483648) (c26 : a_6 - 1 < 2147483648) (K1 : (a_6 - 1) ≤ a_8 → ip sc call 25 MC MS Q 75 [some (.ref r_0), some (.ref r_1), o_2, some (.int (nI a_3)), some (.int (nI a_4)), some (.int (nI a_5)), some (.int (nI a_6)), some (.int (nI a_7)), some (.int (nI a_8))] [(.int (nI v_fs1_10)), (.ref q_fs1_8)] (hup h q_fs1_7 (.inl (0, n15, .inl g20))) z c s) (K2 : ¬ ((a_6 - 1) ≤ a_8) → ip sc call 25 MC MS Q 71 [some (.ref r_0), some (.ref r_1), o_2, some (.int (nI a_3)), some (.int (nI a_4)), some (.int (nI a_5)), some (.int (nI a_6)), some (.int (nI a_7)), some (.int (nI a_8))] [(.int (nI v_fs1_10)), (.ref q_fs1_8)] (hup h q_fs1_7 (.inl (0, n15, .inl g20))) z c s) : ip sc call 25 MC MS Q 35 [some (.ref r_0), some (.ref r_1), o_2, some (.int (nI a_3)), some (.int (nI a_4)), some (.int (nI a_5)), some (.int (nI a_6)), some (.int (nI a_7)), some (.int (nI a_8))] [] h z c s := by
  refine jp_load (pc2 := 36) (n := 0) rfl rfl rfl rfl ?_
  refine jp_getf (pc2 := 39) rfl rfl e2 e3 ?_
  refine jp_load (pc2 := 40) (n := 0) rfl rfl rfl rfl ?_
  refine jp_getf (pc2 := 43) rfl rfl e2 e4 ?_
  refine jp_load (pc2 := 44) (n := 1) rfl rfl rfl rfl ?_
  refine jp_getf (pc2 := 47) rfl rfl e6 e7 ?_
  refine jp_load (pc2 := 49) (n := 5) rfl rfl rfl rfl ?_
  refine jp_load (pc2 := 51) (n := 7) rfl rfl rfl rfl ?_
  refine jp_bin (pc2 := 52) (v := nI (a_5 + a_7)) rfl rfl (congrArg some (nI_add _ _)) ?_
  refine jp_iald (pc2 := 53) rfl rfl e10 (vp_in_nI b11 c12) ?_
  rw [(nI_clamp (Nat.lt_trans b11 c12))]
  rw [e14]
  refine jp_iast (pc2 := 54) rfl rfl e17 (vp_in_nI b18 c19) ?_
  rw [(nI_clamp (Nat.lt_trans b18 c19))]
  rw [d21]
  refine jp_load (pc2 := 55) (n := 0) rfl rfl rfl rfl ?_
  refine jp_getf (pc2 := 58) rfl rfl (hup_ne n22 e2) e23 ?_
  refine jp_load (pc2 := 59) (n := 0) rfl rfl rfl rfl ?_
  refine jp_getf (pc2 := 62) rfl rfl (hup_ne n22 e2) e4 ?_
  refine jp_load (pc2 := 64) (n := 8) rfl rfl rfl rfl ?_
  refine jp_load (pc2 := 66) (n := 6) rfl rfl rfl rfl ?_
  refine jp_con (pc2 := 67) (v := (.int (nI 1))) rfl rfl rfl ?_
  refine jp_bin (pc2 := 68) (v := nI (a_6 - 1)) rfl rfl (congrArg some (pk_sub d24)) ?_
  exact jp_icmp (pc2 := 71) rfl rfl (fun q => K1 ((nI_leI c26 c25).mp q)) (fun q => K2 (fun r => q ((nI_leI c26 c25).mpr r)))
theorem c25_71 {r_0 : Nat} {r_1 : Nat} {o_2 : Option Value} {a_3 : Nat} {a_4 : Nat} {a_5 : Nat} {a_6 : Nat} {a_7 : Nat} {a_8 : Nat} {sr_0 : Nat} {sa_1 : Nat}  (K : ip sc call 25 MC MS Q 77 [some (.ref r_0), some (.ref r_1), o_2, some (.int (nI a_3)), some (.int (nI a_4)), some (.int (nI a_5)), some (.int (nI a_6)), some (.int (nI a_7)), some (.int (nI a_8))] [(.int (nI 0)), (.int (nI sa_1)), (.ref sr_0)] h z c s) : ip sc call 25 MC MS Q 71 [some (.ref r_0), some (.ref r_1), o_2, some (.int (nI a_3)), some (.int (nI a_4)), some (.int (nI a_5)), some (.int (nI a_6)), some (.int (nI a_7)), some (.int (nI a_8))] [(.int (nI sa_1)), (.ref sr_0)] h z c s := by
  refine jp_con (pc2 := 72) (v := (.int (nI 0))) rfl rfl rfl ?_
  refine ip_goto rfl ?_
  exact K
theorem c25_75 {r_0 : Nat} {r_1 : Nat} {o_2 : Option Value} {a_3 : Nat} {a_4 : Nat} {a_5 : Nat} {a_6 : Nat} {a_7 : Nat} {a_8 : Nat} {sr_0 : Nat} {sa_1 : Nat}  (K : ip sc call 25 MC MS Q 77 [some (.ref r_0), some (.ref r_1), o_2, some (.int (nI a_3)), some (.int (nI a_4)), some (.int (nI a_5)), some (.int (nI a_6)), some (.int (nI a_7)), some (.int (nI a_8))] [(.int (nI a_4)), (.int (nI sa_1)), (.ref sr_0)] h z c s) : ip sc call 25 MC MS Q 75 [some (.ref r_0), some (.ref r_1), o_2, some (.int (nI a_3)), some (.int (nI a_4)), some (.int (nI a_5)), some (.int (nI a_6)), some (.int (nI a_7)), some (.int (nI a_8))] [(.int (nI sa_1)), (.ref sr_0)] h z c s := by
  refine jp_load (pc2 := 77) (n := 4) rfl rfl rfl rfl ?_
  exact K
theorem c25_77 {r_0 : Nat} {r_1 : Nat} {o_2 : Option Value} {a_3 : Nat} {a_4 : Nat} {a_5 : Nat} {a_6 : Nat} {a_7 : Nat} {a_8 : Nat} {sr_0 : Nat} {sa_1 : Nat} {sa_2 : Nat} {n1 : Nat} {f2 : Nat → Int32} {g6 : Nat → Int32} {fs8 : List Value} {v_fs8_10 : Nat} (e3 : h sr_0 = some (.inl (0, n1, .inl f2))) (b4 : sa_1 < n1) (c5 : n1 < 2147483648) (d7 : upd f2 sa_1 (nI sa_2) = g6) (e9 : h r_0 = some (.inr (3, fs8))) (n10 : r_0 ≠ sr_0) (e11 : fs8[10]? = some (.int (nI v_fs8_10))) (l12 : fs8.length = 13) (c13 : a_3 < 2147483648) (K1 : ¬ a_3 = 0 → ip sc call 25 MC MS Q 114 [some (.ref r_0), some (.ref r_1), o_2, some (.int (nI a_3)), some (.int (nI a_4)), some (.int (nI a_5)), some (.int (nI a_6)), some (.int (nI a_7)), some (.int (nI a_8))] [] (hup (hup h sr_0 (.inl (0, n1, .inl g6))) r_0 (.inr (3, (fs8.set 10 (.int (nI (v_fs8_10 + 1))))))) z c s) (K2 : ¬ (¬ a_3 = 0) → ip sc call 25 MC MS Q 92 [some (.ref r_0), some (.ref r_1), o_2, some (.int (nI a_3)), some (.int (nI a_4)), some (.int (nI a_5)), some (.int (nI a_6)), some (.int (nI a_7)), some (.int (nI a_8))] [] (hup (hup h sr_0 (.inl (0, n1, .inl g6))) r_0 (.inr (3, (fs8.set 10 (.int (nI (v_fs8_10 + 1))))))) z c s) : ip sc call 25 MC MS Q 77 [some (.ref r_0), some (.ref r_1), o_2, some (.int (nI a_3)), some (.int (nI a_4)), some (.int (nI a_5)), some (.int (nI a_6)), some (.int (nI a_7)), some (.int (nI a_8))] [(.int (nI sa_2)), (.int (nI sa_1)), (.ref sr_0)] h z c s := by
  refine jp_iast (pc2 := 78) rfl rfl e3 (vp_in_nI b4 c5) ?_
  rw [(nI_clamp (Nat.lt_trans b4 c5))]
  rw [d7]
  refine jp_load (pc2 := 79) (n := 0) rfl rfl rfl rfl ?_
  refine jp_dup (pc2 := 80) rfl rfl rfl ?_
  refine jp_getf (pc2 := 83) rfl rfl (hup_ne n10 e9) e11 ?_
  refine jp_con (pc2 := 84) (v := (.int (nI 1))) rfl rfl rfl ?_
  refine jp_bin (pc2 := 85) (v := nI (v_fs8_10 + 1)) rfl rfl (congrArg some (nI_add _ _)) ?_
  refine jp_putf (pc2 := 88) rfl rfl (hup_ne n10 e9) (ln_lt l12 (by decide)) ⟨rfl, rfl⟩ ?_
  refine jp_load (pc2 := 89) (n := 3) rfl rfl rfl rfl ?_
  exact jp_if0 (pc2 := 92) rfl rfl (fun q => K1 ((not_congr (nI_eq c13 (by decide))).mp q)) (fun q => K2 (fun r => q ((not_congr (nI_eq c13 (by decide))).mpr r)))
theorem c25_92 {r_0 : Nat} {r_1 : Nat} {o_2 : Option Value} {a_3 : Nat} {a_4 : Nat} {a_5 : Nat} {a_6 : Nat} {a_7 : Nat} {a_8 : Nat} (c1 : a_7 + 1 < 2147483648) (c2 : a_6 < 2147483648) (K1 : a_6 ≤ (a_7 + 1) → ip sc call 25 MC MS Q 108 [some (.ref r_0), some (.ref r_1), o_2, some (.int (nI a_3)), some (.int (nI a_4)), some (.int (nI a_5)), some (.int (nI a_6)), some (.int (nI a_7)), some (.int (nI a_8))] [] h z c s) (K2 : ¬ (a_6 ≤ (a_7 + 1)) → ip sc call 25 MC MS Q 101 [some (.ref r_0), some (.ref r_1), o_2, some (.int (nI a_3)), some (.int (nI a_4)), some (.int (nI a_5)), some (.int (nI a_6)), some (.int (nI a_7)), some (.int (nI a_8))] [] h z c s) : ip sc call 25 MC MS Q 92 [some (.ref r_0), some (.ref r_1), o_2, some (.int (nI a_3)), some (.int (nI a_4)), some (.int (nI a_5)), some (.int (nI a_6)), some (.int (nI a_7)), some (.int (nI a_8))] [] h z c s := by
  refine jp_load (pc2 := 94) (n := 7) rfl rfl rfl rfl ?_
  refine jp_con (pc2 := 95) (v := (.int (nI 1))) rfl rfl rfl ?_
  refine jp_bin (pc2 := 96) (v := nI (a_7 + 1)) rfl rfl (congrArg some (nI_add _ _)) ?_
  refine jp_load (pc2 := 98) (n := 6) rfl rfl rfl rfl ?_
  exact jp_icmp (pc2 := 101) rfl rfl (fun q => K1 ((nI_leI c2 c1).mp q)) (fun q => K2 (fun r => q ((nI_leI c2 c1).mpr r)))
theorem c25_101 {r_0 : Nat} {r_1 : Nat} {o_2 : Option Value} {a_3 : Nat} {a_4 : Nat} {a_5 : Nat} {a_6 : Nat} {a_7 : Nat} {a_8 : Nat}  (K : ip sc call 25 MC MS Q 109 [some (.ref r_0), some (.ref r_1), o_2, some (.int (nI a_3)), some (.int (nI a_4)), some (.int (nI a_5)), some (.int (nI a_6)), some (.int (nI a_7)), some (.int (nI a_8))] [(.int (nI (a_7 + 1)))] h z c s) : ip sc call 25 MC MS Q 101 [some (.ref r_0), some (.ref r_1), o_2, some (.int (nI a_3)), some (.int (nI a_4)), some (.int (nI a_5)), some (.int (nI a_6)), some (.int (nI a_7)), some (.int (nI a_8))] [] h z c s := by
  refine jp_load (pc2 := 103) (n := 7) rfl rfl rfl rfl ?_
  refine jp_con (pc2 := 104) (v := (.int (nI 1))) rfl rfl rfl ?_
  refine jp_bin (pc2 := 105) (v := nI (a_7 + 1)) rfl rfl (congrArg some (nI_add _ _)) ?_
  refine ip_goto rfl ?_
  exact K
theorem c25_108 {r_0 : Nat} {r_1 : Nat} {o_2 : Option Value} {a_3 : Nat} {a_4 : Nat} {a_5 : Nat} {a_6 : Nat} {o_7 : Option Value} {a_8 : Nat}  (K : ip sc call 25 MC MS Q 109 [some (.ref r_0), some (.ref r_1), o_2, some (.int (nI a_3)), some (.int (nI a_4)), some (.int (nI a_5)), some (.int (nI a_6)), o_7, some (.int (nI a_8))] [(.int (nI 0))] h z c s) : ip sc call 25 MC MS Q 108 [some (.ref r_0), some (.ref r_1), o_2, some (.int (nI a_3)), some (.int (nI a_4)), some (.int (nI a_5)), some (.int (nI a_6)), o_7, some (.int (nI a_8))] [] h z c s := by
  refine jp_con (pc2 := 109) (v := (.int (nI 0))) rfl rfl rfl ?_
  exact K
theorem c25_109 {r_0 : Nat} {r_1 : Nat} {o_2 : Option Value} {a_3 : Nat} {a_4 : Nat} {a_5 : Nat} {a_6 : Nat} {o_7 : Option Value} {a_8 : Nat} {sa_0 : Nat}  (K : ip sc call 25 MC MS Q 132 [some (.ref r_0), some (.ref r_1), o_2, some (.int (nI a_3)), some (.int (nI a_4)), some (.int (nI a_5)), some (.int (nI a_6)), some (.int (nI sa_0)), some (.int (nI a_8))] [] h z c s) : ip sc call 25 MC MS Q 109 [some (.ref r_0), some (.ref r_1), o_2, some (.int (nI a_3)), some (.int (nI a_4)), some (.int (nI a_5)), some (.int (nI a_6)), o_7, some (.int (nI a_8))] [(.int (nI sa_0))] h z c s := by
  refine jp_store (pc2 := 111) (n := 7) rfl rfl ⟨rfl, rfl⟩ rfl (Nat.le_of_ble_eq_true rfl) ?_
  refine ip_goto rfl ?_
  exact K
theorem c25_114 {r_0 : Nat} {r_1 : Nat} {o_2 : Option Value} {a_3 : Nat} {a_4 : Nat} {a_5 : Nat} {a_6 : Nat} {a_7 : Nat} {a_8 : Nat} (c1 : a_7 < 2147483648) (K1 : a_7 ≤ 0 → ip sc call 25 MC MS Q 126 [some (.ref r_0), some (.ref r_1), o_2, some (.int (nI a_3)), some (.int (nI a_4)), some (.int (nI a_5)), some (.int (nI a_6)), some (.int (nI a_7)), some (.int (nI a_8))] [] h z c s) (K2 : ¬ (a_7 ≤ 0) → ip sc call 25 MC MS Q 119 [some (.ref r_0), some (.ref r_1), o_2, some (.int (nI a_3)), some (.int (nI a_4)), some (.int (nI a_5)), some (.int (nI a_6)), some (.int (nI a_7)), some (.int (nI a_8))] [] h z c s) : ip sc call 25 MC MS Q 114 [some (.ref r_0), some (.ref r_1), o_2, some (.int (nI a_3)), some (.int (nI a_4)), some (.int (nI a_5)), some (.int (nI a_6)), some (.int (nI a_7)), some (.int (nI a_8))] [] h z c s := by
  refine jp_load (pc2 := 116) (n := 7) rfl rfl rfl rfl ?_
  exact jp_if0 (pc2 := 119) rfl rfl (fun q => K1 ((nI_leI c1 (by decide)).mp q)) (fun q => K2 (fun r => q ((nI_leI c1 (by decide)).mpr r)))
theorem c25_119 {r_0 : Nat} {r_1 : Nat} {o_2 : Option Value} {a_3 : Nat} {a_4 : Nat} {a_5 : Nat} {a_6 : Nat} {a_7 : Nat} {a_8 : Nat} (d1 : 1 ≤ a_7) (K : ip sc call 25 MC MS Q 130 [some (.ref r_0), some (.ref r_1), o_2, some (.int (nI a_3)), some (.int (nI a_4)), some (.int (nI a_5)), some (.int (nI a_6)), some (.int (nI a_7)), some (.int (nI a_8))] [(.int (nI (a_7 - 1)))] h z c s) : ip sc call 25 MC MS Q 119 [some (.ref r_0), some (.ref r_1), o_2, some (.int (nI a_3)), some (.int (nI a_4)), some (.int (nI a_5)), some (.int (nI a_6)), some (.int (nI a_7)), some (.int (nI a_8))] [] h z c s := by
  refine jp_load (pc2 := 121) (n := 7) rfl rfl rfl rfl ?_
  refine jp_con (pc2 := 122) (v := (.int (nI 1))) rfl rfl rfl ?_
  refine jp_bin (pc2 := 123) (v := nI (a_7 - 1)) rfl rfl (congrArg some (pk_sub d1)) ?_
  refine ip_goto rfl ?_
  exact K
theorem c25_126 {r_0 : Nat} {r_1 : Nat} {o_2 : Option Value} {a_3 : Nat} {a_4 : Nat} {a_5 : Nat} {a_6 : Nat} {o_7 : Option Value} {a_8 : Nat} (d1 : 1 ≤ a_6) (K : ip sc call 25 MC MS Q 130 [some (.ref r_0), some (.ref r_1), o_2, some (.int (nI a_3)), some (.int (nI a_4)), some (.int (nI a_5)), some (.int (nI a_6)), o_7, some (.int (nI a_8))] [(.int (nI (a_6 - 1)))] h z c s) : ip sc call 25 MC MS Q 126 [some (.ref r_0), some (.ref r_1), o_2, some (.int (nI a_3)), some (.int (nI a_4)), some (.int (nI a_5)), some (.int (nI a_6)), o_7, some (.int (nI a_8))] [] h z c s := by
  refine jp_load (pc2 := 128) (n := 6) rfl rfl rfl rfl ?_
  refine jp_con (pc2 := 129) (v := (.int (nI 1))) rfl rfl rfl ?_
  refine jp_bin (pc2 := 130) (v := nI (a_6 - 1)) rfl rfl (congrArg some (pk_sub d1)) ?_
  exact K
theorem c25_130 {r_0 : Nat} {r_1 : Nat} {o_2 : Option Value} {a_3 : Nat} {a_4 : Nat} {a_5 : Nat} {a_6 : Nat} {o_7 : Option Value} {a_8 : Nat} {sa_0 : Nat}  (K : ip sc call 25 MC MS Q 132 [some (.ref r_0), some (.ref r_1), o_2, some (.int (nI a_3)), some (.int (nI a_4)), some (.int (nI a_5)), some (.int (nI a_6)), some (.int (nI sa_0)), some (.int (nI a_8))] [] h z c s) : ip sc call 25 MC MS Q 130 [some (.ref r_0), some (.ref r_1), o_2, some (.int (nI a_3)), some (.int (nI a_4)), some (.int (nI a_5)), some (.int (nI a_6)), o_7, some (.int (nI a_8))] [(.int (nI sa_0))] h z c s := by
  refine jp_store (pc2 := 132) (n := 7) rfl rfl ⟨rfl, rfl⟩ rfl (Nat.le_of_ble_eq_true rfl) ?_
  exact K
theorem c25_132 {r_0 : Nat} {r_1 : Nat} {o_2 : Option Value} {a_3 : Nat} {a_4 : Nat} {a_5 : Nat} {a_6 : Nat} {a_7 : Nat} {a_8 : Nat}  (K : ip sc call 25 MC MS Q 28 [some (.ref r_0), some (.ref r_1), o_2, some (.int (nI a_3)), some (.int (nI a_4)), some (.int (nI a_5)), some (.int (nI a_6)), some (.int (nI a_7)), some (.int (nI (a_8 + 1)))] [] h z c s) : ip sc call 25 MC MS Q 132 [some (.ref r_0), some (.ref r_1), o_2, some (.int (nI a_3)), some (.int (nI a_4)), some (.int (nI a_5)), some (.int (nI a_6)), some (.int (nI a_7)), some (.int (nI a_8))] [] h z c s := by
  refine jp_iinc (pc2 := 135) (n := 8) (v := nI (a_8 + 1)) rfl rfl rfl (nI_add _ 1) rfl ?_
  refine ip_goto rfl ?_
  exact K
theorem c25_138 {o_0 : Option Value} {o_1 : Option Value} {o_2 : Option Value} {o_3 : Option Value} {o_4 : Option Value} {o_5 : Option Value} {o_6 : Option Value} {o_7 : Option Value} {o_8 : Option Value} (q1 : Q none h z)  : ip sc call 25 MC MS Q 138 [o_0, o_1, o_2, o_3, o_4, o_5, o_6, o_7, o_8] [] h z c s := by
  exact ip_vret (st := []) rfl rfl q1
theorem c26_0 {r_0 : Nat} {o_1 : Option Value} {o_2 : Option Value} {o_3 : Option Value} {fs1 : List Value} (e2 : h r_0 = some (.inr (3, fs1))) (l3 : fs1.length = 13) (K : ip sc call 26 MC MS Q 12 [some (.ref r_0), some (.int (nI 0)), o_2, o_3] [] (hup h r_0 (.inr (3, ((fs1.set 11 (.long 0)).set 12 (.long 0))))) z c s) : ip sc call 26 MC MS Q 0 [some (.ref r_0), o_1, o_2, o_3] [] h z c s := by
  refine jp_load (pc2 := 1) (n := 0) rfl rfl rfl rfl ?_
  refine jp_con (pc2 := 2) (v := .long 0) rfl rfl rfl ?_
  refine jp_putf (pc2 := 5) rfl rfl e2 (ln_lt l3 (by decide)) ⟨rfl, rfl⟩ ?_
  refine jp_load (pc2 := 6) (n := 0) rfl rfl rfl rfl ?_
  refine jp_con (pc2 := 7) (v := .long 0) rfl rfl rfl ?_
  refine jp_putf (pc2 := 10) rfl rfl hup_eq (ls_lt (ln_lt l3 (by decide))) ⟨rfl, rfl⟩ ?_
  rw [hup_hup]
  refine jp_con (pc2 := 11) (v := (.int (nI 0))) rfl rfl rfl ?_
  refine jp_store (pc2 := 12) (n := 1) rfl rfl ⟨rfl, rfl⟩ rfl (Nat.le_of_ble_eq_true rfl) ?_
  exact K
theorem c26_12 {r_0 : Nat} {a_1 : Nat} {o_2 : Option Value} {o_3 : Option Value} {fs1 : List Value} {v_fs1_10 : Nat} (e2 : h r_0 = some (.inr (3, fs1))) (e3 : fs1[10]? = some (.int (nI v_fs1_10))) (c4 : a_1 < 2147483648) (c5 : v_fs1_10 < 2147483648) (K1 : v_fs1_10 ≤ a_1 → ip sc call 26 MC MS Q 90 [some (.ref r_0), some (.int (nI a_1)), o_2, o_3] [] h z c s) (K2 : ¬ (v_fs1_10 ≤ a_1) → ip sc call 26 MC MS Q 20 [some (.ref r_0), some (.int (nI a_1)), o_2, o_3] [] h z c s) : ip sc call 26 MC MS Q 12 [some (.ref r_0), some (.int (nI a_1)), o_2, o_3] [] h z c s := by
  refine jp_load (pc2 := 13) (n := 1) rfl rfl rfl rfl ?_
  refine jp_load (pc2 := 14) (n := 0) rfl rfl rfl rfl ?_
  refine jp_getf (pc2 := 17) rfl rfl e2 e3 ?_
  exact jp_icmp (pc2 := 20) rfl rfl (fun q => K1 ((nI_leI c5 c4).mp q)) (fun q => K2 (fun r => q ((nI_leI c5 c4).mpr r)))
theorem c26_20 {r_0 : Nat} {a_1 : Nat} {o_2 : Option Value} {o_3 : Option Value} {fs1 : List Value} {q_fs1_1 : Nat} {q_fs1_7 : Nat} {n5 : Nat} {f6 : Nat → Int32} {v10 : Nat} {n12 : Nat} {f13 : Nat → Int32} {v17 : Nat} {q_fs1_8 : Nat} {n20 : Nat} {f21 : Nat → Int32} {v25 : Nat} (e2 : h r_0 = some (.inr (3, fs1))) (e3 : fs1[1]? = some (.ref q_fs1_1)) (e4 : fs1[7]? = some (.ref q_fs1_7)) (e7 : h q_fs1_7 = some (.inl (0, n5, .inl f6))) (b8 : a_1 < n5) (c9 : n5 < 2147483648) (e11 : f6 a_1 = nI v10) (e14 : h q_fs1_1 = some (.inl (0, n12, .inl f13))) (b15 : v10 < n12) (c16 : n12 < 2147483648) (e18 : f13 v10 = nI v17) (e19 : fs1[8]? = some (.ref q_fs1_8)) (e22 : h q_fs1_8 = some (.inl (0, n20, .inl f21))) (b23 : a_1 < n20) (c24 : n20 < 2147483648) (e26 : f21 a_1 = nI v25) (c27 : a_1 < 2147483648) (K1 : 10 ≤ a_1 → ip sc call 26 MC MS Q 66 [some (.ref r_0), some (.int (nI a_1)), some (.long ((((nI v17) <<< ((nI 2) &&& 31)) ||| (nI v25)).toInt64)), none] [] h z c s) (K2 : ¬ (10 ≤ a_1) → ip sc call 26 MC MS Q 48 [some (.ref r_0), some (.int (nI a_1)), some (.long ((((nI v17) <<< ((nI 2) &&& 31)) ||| (nI v25)).toInt64)), none] [] h z c s) : ip sc call 26 MC MS Q 20 [some (.ref r_0), some (.int (nI a_1)), o_2, o_3] [] h z c s := by
  refine jp_load (pc2 := 21) (n := 0) rfl rfl rfl rfl ?_
  refine jp_getf (pc2 := 24) rfl rfl e2 e3 ?_
  refine jp_load (pc2 := 25) (n := 0) rfl rfl rfl rfl ?_
  refine jp_getf (pc2 := 28) rfl rfl e2 e4 ?_
  refine jp_load (pc2 := 29) (n := 1) rfl rfl rfl rfl ?_
  refine jp_iald (pc2 := 30) rfl rfl e7 (vp_in_nI b8 c9) ?_
  rw [(nI_clamp (Nat.lt_trans b8 c9))]
  rw [e11]
  refine jp_iald (pc2 := 31) rfl rfl e14 (vp_in_nI b15 c16) ?_
  rw [(nI_clamp (Nat.lt_trans b15 c16))]
  rw [e18]
  refine jp_con (pc2 := 32) (v := (.int (nI 2))) rfl rfl rfl ?_
  refine jp_bin (pc2 := 33) (v := (nI v17) <<< ((nI 2) &&& 31)) rfl rfl rfl ?_
  refine jp_load (pc2 := 34) (n := 0) rfl rfl rfl rfl ?_
  refine jp_getf (pc2 := 37) rfl rfl e2 e19 ?_
  refine jp_load (pc2 := 38) (n := 1) rfl rfl rfl rfl ?_
  refine jp_iald (pc2 := 39) rfl rfl e22 (vp_in_nI b23 c24) ?_
  rw [(nI_clamp (Nat.lt_trans b23 c24))]
  rw [e26]
  refine jp_bin (pc2 := 40) (v := ((nI v17) <<< ((nI 2) &&& 31)) ||| (nI v25)) rfl rfl rfl ?_
  refine jp_cv (pc2 := 41) (v := (.long ((((nI v17) <<< ((nI 2) &&& 31)) ||| (nI v25)).toInt64))) rfl rfl rfl ?_
  refine jp_store2 (pc2 := 42) (n := 2) rfl rfl ⟨rfl, rfl⟩ rfl (Nat.le_of_ble_eq_true rfl) ?_
  refine jp_load (pc2 := 43) (n := 1) rfl rfl rfl rfl ?_
  refine jp_con (pc2 := 45) (v := (.int (nI 10))) rfl rfl rfl ?_
  exact jp_icmp (pc2 := 48) rfl rfl (fun q => K1 ((nI_leI (by decide) c27).mp q)) (fun q => K2 (fun r => q ((nI_leI (by decide) c27).mpr r)))
theorem c26_48 {r_0 : Nat} {a_1 : Nat} {y_2 : Int64} {o_3 : Option Value} {fs1 : List Value} {w_fs1_11 : Int64} (e2 : h r_0 = some (.inr (3, fs1))) (e3 : fs1[11]? = some (.long w_fs1_11)) (l4 : fs1.length = 13) (K : ip sc call 26 MC MS Q 84 [some (.ref r_0), some (.int (nI a_1)), some (.long y_2), o_3] [] (hup h r_0 (.inr (3, (fs1.set 11 (.long (w_fs1_11 ||| (y_2 <<< ((nI (6 * a_1)).toInt64 &&& 63)))))))) z c s) : ip sc call 26 MC MS Q 48 [some (.ref r_0), some (.int (nI a_1)), some (.long y_2), o_3] [] h z c s := by
  refine jp_load (pc2 := 49) (n := 0) rfl rfl rfl rfl ?_
  refine jp_dup (pc2 := 50) rfl rfl rfl ?_
  refine jp_getf (pc2 := 53) rfl rfl e2 e3 ?_
  refine jp_load (pc2 := 54) (n := 2) rfl rfl rfl rfl ?_
  refine jp_con (pc2 := 56) (v := (.int (nI 6))) rfl rfl rfl ?_
  refine jp_load (pc2 := 57) (n := 1) rfl rfl rfl rfl ?_
  refine jp_bin (pc2 := 58) (v := nI (6 * a_1)) rfl rfl (congrArg some (pk_mul _ _)) ?_
  refine jp_lsh (pc2 := 59) (v := y_2 <<< ((nI (6 * a_1)).toInt64 &&& 63)) rfl rfl rfl ?_
  refine jp_lbin (pc2 := 60) (v := w_fs1_11 ||| (y_2 <<< ((nI (6 * a_1)).toInt64 &&& 63))) rfl rfl rfl ?_
  refine jp_putf (pc2 := 63) rfl rfl e2 (ln_lt l4 (by decide)) ⟨rfl, rfl⟩ ?_
  refine ip_goto rfl ?_
  exact K
theorem c26_66 {r_0 : Nat} {a_1 : Nat} {y_2 : Int64} {o_3 : Option Value} {fs1 : List Value} {w_fs1_12 : Int64} (e2 : h r_0 = some (.inr (3, fs1))) (e3 : fs1[12]? = some (.long w_fs1_12)) (d4 : 10 ≤ a_1) (l5 : fs1.length = 13) (K : ip sc call 26 MC MS Q 84 [some (.ref r_0), some (.int (nI a_1)), some (.long y_2), o_3] [] (hup h r_0 (.inr (3, (fs1.set 12 (.long (w_fs1_12 ||| (y_2 <<< ((nI (6 * (a_1 - 10))).toInt64 &&& 63)))))))) z c s) : ip sc call 26 MC MS Q 66 [some (.ref r_0), some (.int (nI a_1)), some (.long y_2), o_3] [] h z c s := by
  refine jp_load (pc2 := 67) (n := 0) rfl rfl rfl rfl ?_
  refine jp_dup (pc2 := 68) rfl rfl rfl ?_
  refine jp_getf (pc2 := 71) rfl rfl e2 e3 ?_
  refine jp_load (pc2 := 72) (n := 2) rfl rfl rfl rfl ?_
  refine jp_con (pc2 := 74) (v := (.int (nI 6))) rfl rfl rfl ?_
  refine jp_load (pc2 := 75) (n := 1) rfl rfl rfl rfl ?_
  refine jp_con (pc2 := 77) (v := (.int (nI 10))) rfl rfl rfl ?_
  refine jp_bin (pc2 := 78) (v := nI (a_1 - 10)) rfl rfl (congrArg some (pk_sub d4)) ?_
  refine jp_bin (pc2 := 79) (v := nI (6 * (a_1 - 10))) rfl rfl (congrArg some (pk_mul _ _)) ?_
  refine jp_lsh (pc2 := 80) (v := y_2 <<< ((nI (6 * (a_1 - 10))).toInt64 &&& 63)) rfl rfl rfl ?_
  refine jp_lbin (pc2 := 81) (v := w_fs1_12 ||| (y_2 <<< ((nI (6 * (a_1 - 10))).toInt64 &&& 63))) rfl rfl rfl ?_
  refine jp_putf (pc2 := 84) rfl rfl e2 (ln_lt l5 (by decide)) ⟨rfl, rfl⟩ ?_
  exact K
theorem c26_84 {r_0 : Nat} {a_1 : Nat} {o_2 : Option Value} {o_3 : Option Value}  (K : ip sc call 26 MC MS Q 12 [some (.ref r_0), some (.int (nI (a_1 + 1))), o_2, o_3] [] h z c s) : ip sc call 26 MC MS Q 84 [some (.ref r_0), some (.int (nI a_1)), o_2, o_3] [] h z c s := by
  refine jp_iinc (pc2 := 87) (n := 1) (v := nI (a_1 + 1)) rfl rfl rfl (nI_add _ 1) rfl ?_
  refine ip_goto rfl ?_
  exact K
theorem c26_90 {o_0 : Option Value} {o_1 : Option Value} {o_2 : Option Value} {o_3 : Option Value} (q1 : Q none h z)  : ip sc call 26 MC MS Q 90 [o_0, o_1, o_2, o_3] [] h z c s := by
  exact ip_vret (st := []) rfl rfl q1
-- c65_50 by hand: a making: raw
theorem c65_97 {r_0 : Nat} {a_1 : Nat} (c1 : a_1 < 2147483648) (K1 : 9 ≤ a_1 → ip sc call 65 MC MS Q 136 [some (.ref r_0), some (.int (nI a_1))] [] h z c s) (K2 : ¬ (9 ≤ a_1) → ip sc call 65 MC MS Q 103 [some (.ref r_0), some (.int (nI a_1))] [] h z c s) : ip sc call 65 MC MS Q 97 [some (.ref r_0), some (.int (nI a_1))] [] h z c s := by
  refine jp_load (pc2 := 98) (n := 1) rfl rfl rfl rfl ?_
  refine jp_con (pc2 := 100) (v := (.int (nI 9))) rfl rfl rfl ?_
  exact jp_icmp (pc2 := 103) rfl rfl (fun q => K1 ((nI_leI (by decide) c1).mp q)) (fun q => K2 (fun r => q ((nI_leI (by decide) c1).mpr r)))
theorem c65_129 {r_0 : Nat} {a_1 : Nat} {sr_0 : Nat} {sa_1 : Nat} {sr_2 : Nat} {n1 : Nat} {f2 : Nat → Option Nat} {fs6 : List Value} {g8 : Nat → Option Nat} (e3 : h sr_0 = some (.inl (4, n1, .inr (.inr (.inr (.inr f2)))))) (b4 : sa_1 < n1) (c5 : n1 < 2147483648) (e7 : h sr_2 = some (.inr (2, fs6))) (d9 : va_up f2 sa_1 (some sr_2) = g8) (K : ip sc call 65 MC MS Q 97 [some (.ref r_0), some (.int (nI (a_1 + 1)))] [] (hup h sr_0 (.inl (4, n1, .inr (.inr (.inr (.inr g8)))))) z c s) : ip sc call 65 MC MS Q 129 [some (.ref r_0), some (.int (nI a_1))] [(.ref sr_2), (.int (nI sa_1)), (.ref sr_0)] h z c s := by
  refine jp_aast (pc2 := 130) rfl rfl e3 (by decide) e7 (vp_in_nI b4 c5) ?_
  rw [(nI_clamp (Nat.lt_trans b4 c5))]
  rw [d9]
  refine jp_iinc (pc2 := 133) (n := 1) (v := nI (a_1 + 1)) rfl rfl rfl (nI_add _ 1) rfl ?_
  refine ip_goto rfl ?_
  exact K
theorem c65_136 {o_0 : Option Value} {o_1 : Option Value} (q1 : Q none h z)  : ip sc call 65 MC MS Q 136 [o_0, o_1] [] h z c s := by
  exact ip_vret (st := []) rfl rfl q1
theorem c66_0 {r_0 : Nat} {r_1 : Nat} {fs1 : List Value} {q_fs1_3 : Nat} {fs4 : List Value} {P : ipQ} (e2 : h r_0 = some (.inr (7, fs1))) (e3 : fs1[3]? = some (.ref q_fs1_3)) (e5 : h q_fs1_3 = some (.inr (6, fs4))) (m6 : c ≤ MC) (m7 : s ≤ MS) (hc : call 53 [(.ref q_fs1_3), (.ref r_1)] h z 0 0 P) (K : ∀ (o : Option Value) (h2 : HP) (z2 : Nat), P o h2 z2 → ip sc call 66 MC MS Q 8 [some (.ref r_0), some (.ref r_1)] (o.toList ++ []) h2 z2 c s) : ip sc call 66 MC MS Q 0 [some (.ref r_0), some (.ref r_1)] [] h z c s := by
  refine jp_load (pc2 := 1) (n := 0) rfl rfl rfl rfl ?_
  refine jp_getf (pc2 := 4) rfl rfl e2 e3 ?_
  refine jp_load (pc2 := 5) (n := 1) rfl rfl rfl rfl ?_
  exact jp_virt0 (pc2 := 8) (As := [(.ref r_1)]) (rest := []) rfl rfl rfl (Nat.le_of_ble_eq_true rfl) e5 m6 m7 hc rfl K
theorem c66_8 {r_0 : Nat} {o_1 : Option Value} {fs1 : List Value} {P : ipQ} (e2 : h r_0 = some (.inr (7, fs1))) (m3 : c ≤ MC) (m4 : s ≤ MS) (hc : call 68 [(.ref r_0), (.int (nI 0))] h z 0 0 P) (K : ∀ (o : Option Value) (h2 : HP) (z2 : Nat), P o h2 z2 → ip sc call 66 MC MS Q 13 [some (.ref r_0), o_1] (o.toList ++ []) h2 z2 c s) : ip sc call 66 MC MS Q 8 [some (.ref r_0), o_1] [] h z c s := by
  refine jp_load (pc2 := 9) (n := 0) rfl rfl rfl rfl ?_
  refine jp_con (pc2 := 10) (v := (.int (nI 0))) rfl rfl rfl ?_
  exact jp_virt0 (pc2 := 13) (As := [(.int (nI 0))]) (rest := []) rfl rfl rfl (Nat.le_of_ble_eq_true rfl) e2 m3 m4 hc rfl K
theorem c66_13 {o_0 : Option Value} {o_1 : Option Value} {sa_0 : Nat} (q1 : Q (some (.int (nI sa_0))) h z)  : ip sc call 66 MC MS Q 13 [o_0, o_1] [(.int (nI sa_0))] h z c s := by
  exact ip_iret (st := []) rfl rfl rfl q1
theorem c67_0 {r_0 : Nat} {r_1 : Nat} {r_2 : Nat} {o_3 : Option Value} {o_4 : Option Value} {o_5 : Option Value} {o_6 : Option Value} {fs1 : List Value} {P : ipQ} (e2 : h r_2 = some (.inr (2, fs1))) (m3 : c ≤ MC) (m4 : s ≤ MS) (hc : call 11 [(.ref r_2)] h z 0 0 P) (K : ∀ (o : Option Value) (h2 : HP) (z2 : Nat), P o h2 z2 → ip sc call 67 MC MS Q 6 [some (.ref r_0), some (.ref r_1), some (.ref r_2), some (.int (nI 0)), o_4, o_5, o_6] (o.toList ++ []) h2 z2 c s) : ip sc call 67 MC MS Q 0 [some (.ref r_0), some (.ref r_1), some (.ref r_2), o_3, o_4, o_5, o_6] [] h z c s := by
  refine jp_con (pc2 := 1) (v := (.int (nI 0))) rfl rfl rfl ?_
  refine jp_store (pc2 := 2) (n := 3) rfl rfl ⟨rfl, rfl⟩ rfl (Nat.le_of_ble_eq_true rfl) ?_
  refine jp_load (pc2 := 3) (n := 2) rfl rfl rfl rfl ?_
  exact jp_virt0 (pc2 := 6) (As := []) (rest := []) rfl rfl rfl (Nat.le_of_ble_eq_true rfl) e2 m3 m4 hc rfl K
theorem c67_6 {r_0 : Nat} {r_1 : Nat} {r_2 : Nat} {a_3 : Nat} {o_4 : Option Value} {o_5 : Option Value} {o_6 : Option Value}  (K : ip sc call 67 MC MS Q 9 [some (.ref r_0), some (.ref r_1), some (.ref r_2), some (.int (nI a_3)), some (.int (nI 0)), o_5, o_6] [] h z c s) : ip sc call 67 MC MS Q 6 [some (.ref r_0), some (.ref r_1), some (.ref r_2), some (.int (nI a_3)), o_4, o_5, o_6] [] h z c s := by
  refine jp_con (pc2 := 7) (v := (.int (nI 0))) rfl rfl rfl ?_
  refine jp_store (pc2 := 9) (n := 4) rfl rfl ⟨rfl, rfl⟩ rfl (Nat.le_of_ble_eq_true rfl) ?_
  exact K
theorem c67_9 {r_0 : Nat} {r_1 : Nat} {r_2 : Nat} {a_3 : Nat} {a_4 : Nat} {o_5 : Option Value} {o_6 : Option Value} (c1 : a_4 < 2147483648) (K1 : 1000000 ≤ a_4 → ip sc call 67 MC MS Q 81 [some (.ref r_0), some (.ref r_1), some (.ref r_2), some (.int (nI a_3)), some (.int (nI a_4)), o_5, o_6] [] h z c s) (K2 : ¬ (1000000 ≤ a_4) → ip sc call 67 MC MS Q 16 [some (.ref r_0), some (.ref r_1), some (.ref r_2), some (.int (nI a_3)), some (.int (nI a_4)), o_5, o_6] [] h z c s) : ip sc call 67 MC MS Q 9 [some (.ref r_0), some (.ref r_1), some (.ref r_2), some (.int (nI a_3)), some (.int (nI a_4)), o_5, o_6] [] h z c s := by
  refine jp_load (pc2 := 11) (n := 4) rfl rfl rfl rfl ?_
  refine jp_con (pc2 := 13) (v := (.int (nI 1000000))) rfl rfl rfl ?_
  exact jp_icmp (pc2 := 16) rfl rfl (fun q => K1 ((nI_leI (by decide) c1).mp q)) (fun q => K2 (fun r => q ((nI_leI (by decide) c1).mpr r)))
theorem c67_16 {r_0 : Nat} {r_1 : Nat} {r_2 : Nat} {a_3 : Nat} {a_4 : Nat} {o_5 : Option Value} {o_6 : Option Value} {fs1 : List Value} {P : ipQ} (e2 : h r_1 = some (.inr (6, fs1))) (m3 : c ≤ MC) (m4 : s ≤ MS) (hc : call 46 [(.ref r_1), (.ref r_2)] h z 0 0 P) (K : ∀ (o : Option Value) (h2 : HP) (z2 : Nat), P o h2 z2 → ip sc call 67 MC MS Q 21 [some (.ref r_0), some (.ref r_1), some (.ref r_2), some (.int (nI a_3)), some (.int (nI a_4)), o_5, o_6] (o.toList ++ []) h2 z2 c s) : ip sc call 67 MC MS Q 16 [some (.ref r_0), some (.ref r_1), some (.ref r_2), some (.int (nI a_3)), some (.int (nI a_4)), o_5, o_6] [] h z c s := by
  refine jp_load (pc2 := 17) (n := 1) rfl rfl rfl rfl ?_
  refine jp_load (pc2 := 18) (n := 2) rfl rfl rfl rfl ?_
  exact jp_virt0 (pc2 := 21) (As := [(.ref r_2)]) (rest := []) rfl rfl rfl (Nat.le_of_ble_eq_true rfl) e2 m3 m4 hc rfl K
theorem c67_21 {r_0 : Nat} {r_1 : Nat} {r_2 : Nat} {a_3 : Nat} {a_4 : Nat} {o_5 : Option Value} {o_6 : Option Value} {sa_0 : Nat} (c1 : sa_0 < 2147483648) (K1 : sa_0 = 0 → ip sc call 67 MC MS Q 81 [some (.ref r_0), some (.ref r_1), some (.ref r_2), some (.int (nI a_3)), some (.int (nI a_4)), o_5, o_6] [] h z c s) (K2 : ¬ (sa_0 = 0) → ip sc call 67 MC MS Q 24 [some (.ref r_0), some (.ref r_1), some (.ref r_2), some (.int (nI a_3)), some (.int (nI a_4)), o_5, o_6] [] h z c s) : ip sc call 67 MC MS Q 21 [some (.ref r_0), some (.ref r_1), some (.ref r_2), some (.int (nI a_3)), some (.int (nI a_4)), o_5, o_6] [(.int (nI sa_0))] h z c s := by
  exact jp_if0 (pc2 := 24) rfl rfl (fun q => K1 ((nI_eq c1 (by decide)).mp q)) (fun q => K2 (fun r => q ((nI_eq c1 (by decide)).mpr r)))
theorem c67_24 {r_0 : Nat} {r_1 : Nat} {r_2 : Nat} {a_3 : Nat} {a_4 : Nat} {o_5 : Option Value} {o_6 : Option Value} {fs1 : List Value} {P : ipQ} (e2 : h r_1 = some (.inr (6, fs1))) (m3 : c ≤ MC) (m4 : s ≤ MS) (hc : call 44 [(.ref r_1), (.ref r_2)] h z 0 0 P) (K : ∀ (o : Option Value) (h2 : HP) (z2 : Nat), P o h2 z2 → ip sc call 67 MC MS Q 29 [some (.ref r_0), some (.ref r_1), some (.ref r_2), some (.int (nI a_3)), some (.int (nI a_4)), o_5, o_6] (o.toList ++ []) h2 z2 c s) : ip sc call 67 MC MS Q 24 [some (.ref r_0), some (.ref r_1), some (.ref r_2), some (.int (nI a_3)), some (.int (nI a_4)), o_5, o_6] [] h z c s := by
  refine jp_load (pc2 := 25) (n := 1) rfl rfl rfl rfl ?_
  refine jp_load (pc2 := 26) (n := 2) rfl rfl rfl rfl ?_
  exact jp_virt0 (pc2 := 29) (As := [(.ref r_2)]) (rest := []) rfl rfl rfl (Nat.le_of_ble_eq_true rfl) e2 m3 m4 hc rfl K
theorem c67_29 {r_0 : Nat} {r_1 : Nat} {r_2 : Nat} {a_3 : Nat} {a_4 : Nat} {o_5 : Option Value} {o_6 : Option Value} {sa_0 : Nat}  (K : ip sc call 67 MC MS Q 34 [some (.ref r_0), some (.ref r_1), some (.ref r_2), some (.int (nI a_3)), some (.int (nI a_4)), some (.int (nI sa_0)), some (.int (nI 0))] [] h z c s) : ip sc call 67 MC MS Q 29 [some (.ref r_0), some (.ref r_1), some (.ref r_2), some (.int (nI a_3)), some (.int (nI a_4)), o_5, o_6] [(.int (nI sa_0))] h z c s := by
  refine jp_store (pc2 := 31) (n := 5) rfl rfl ⟨rfl, rfl⟩ rfl (Nat.le_of_ble_eq_true rfl) ?_
  refine jp_con (pc2 := 32) (v := (.int (nI 0))) rfl rfl rfl ?_
  refine jp_store (pc2 := 34) (n := 6) rfl rfl ⟨rfl, rfl⟩ rfl (Nat.le_of_ble_eq_true rfl) ?_
  exact K
theorem c67_34 {r_0 : Nat} {r_1 : Nat} {r_2 : Nat} {a_3 : Nat} {a_4 : Nat} {a_5 : Nat} {a_6 : Nat} (c1 : a_6 < 2147483648) (c2 : a_5 < 2147483648) (K1 : a_5 ≤ a_6 → ip sc call 67 MC MS Q 75 [some (.ref r_0), some (.ref r_1), some (.ref r_2), some (.int (nI a_3)), some (.int (nI a_4)), some (.int (nI a_5)), some (.int (nI a_6))] [] h z c s) (K2 : ¬ (a_5 ≤ a_6) → ip sc call 67 MC MS Q 41 [some (.ref r_0), some (.ref r_1), some (.ref r_2), some (.int (nI a_3)), some (.int (nI a_4)), some (.int (nI a_5)), some (.int (nI a_6))] [] h z c s) : ip sc call 67 MC MS Q 34 [some (.ref r_0), some (.ref r_1), some (.ref r_2), some (.int (nI a_3)), some (.int (nI a_4)), some (.int (nI a_5)), some (.int (nI a_6))] [] h z c s := by
  refine jp_load (pc2 := 36) (n := 6) rfl rfl rfl rfl ?_
  refine jp_load (pc2 := 38) (n := 5) rfl rfl rfl rfl ?_
  exact jp_icmp (pc2 := 41) rfl rfl (fun q => K1 ((nI_leI c2 c1).mp q)) (fun q => K2 (fun r => q ((nI_leI c2 c1).mpr r)))
theorem c67_41 {r_0 : Nat} {r_1 : Nat} {r_2 : Nat} {a_3 : Nat} {a_4 : Nat} {a_5 : Nat} {a_6 : Nat} {fs1 : List Value} {fs4 : List Value} {q_fs4_3 : Nat} {fs8 : List Value} {P : ipQ} (e2 : h r_2 = some (.inr (2, fs1))) (l3 : fs1.length = 6) (e5 : h r_0 = some (.inr (7, fs4))) (n6 : r_0 ≠ r_2) (e7 : fs4[3]? = some (.ref q_fs4_3)) (e9 : h q_fs4_3 = some (.inr (6, fs8))) (n10 : q_fs4_3 ≠ r_2) (m11 : c ≤ MC) (m12 : s ≤ MS) (hc : call 54 [(.ref q_fs4_3), (.ref r_1), (.ref r_2)] (hup h r_2 (.inr (2, (fs1.set 5 (.int (nI a_6)))))) z 0 0 P) (K : ∀ (o : Option Value) (h2 : HP) (z2 : Nat), P o h2 z2 → ip sc call 67 MC MS Q 56 [some (.ref r_0), some (.ref r_1), some (.ref r_2), some (.int (nI a_3)), some (.int (nI a_4)), some (.int (nI a_5)), some (.int (nI a_6))] (o.toList ++ []) h2 z2 c s) : ip sc call 67 MC MS Q 41 [some (.ref r_0), some (.ref r_1), some (.ref r_2), some (.int (nI a_3)), some (.int (nI a_4)), some (.int (nI a_5)), some (.int (nI a_6))] [] h z c s := by
  refine jp_load (pc2 := 42) (n := 2) rfl rfl rfl rfl ?_
  refine jp_load (pc2 := 44) (n := 6) rfl rfl rfl rfl ?_
  refine jp_putf (pc2 := 47) rfl rfl e2 (ln_lt l3 (by decide)) ⟨rfl, rfl⟩ ?_
  refine jp_load (pc2 := 48) (n := 0) rfl rfl rfl rfl ?_
  refine jp_getf (pc2 := 51) rfl rfl (hup_ne n6 e5) e7 ?_
  refine jp_load (pc2 := 52) (n := 1) rfl rfl rfl rfl ?_
  refine jp_load (pc2 := 53) (n := 2) rfl rfl rfl rfl ?_
  exact jp_virt0 (pc2 := 56) (As := [(.ref r_1), (.ref r_2)]) (rest := []) rfl rfl rfl (Nat.le_of_ble_eq_true rfl) (hup_ne n10 e9) m11 m12 hc rfl K
theorem c67_56 {r_0 : Nat} {r_1 : Nat} {r_2 : Nat} {a_3 : Nat} {a_4 : Nat} {a_5 : Nat} {a_6 : Nat} {fs1 : List Value} {P : ipQ} (e2 : h r_0 = some (.inr (7, fs1))) (m3 : c ≤ MC) (m4 : s ≤ MS) (hc : call 68 [(.ref r_0), (.int (nI 0))] h z 0 0 P) (K : ∀ (o : Option Value) (h2 : HP) (z2 : Nat), P o h2 z2 → ip sc call 67 MC MS Q 61 [some (.ref r_0), some (.ref r_1), some (.ref r_2), some (.int (nI a_3)), some (.int (nI a_4)), some (.int (nI a_5)), some (.int (nI a_6))] (o.toList ++ []) h2 z2 c s) : ip sc call 67 MC MS Q 56 [some (.ref r_0), some (.ref r_1), some (.ref r_2), some (.int (nI a_3)), some (.int (nI a_4)), some (.int (nI a_5)), some (.int (nI a_6))] [] h z c s := by
  refine jp_load (pc2 := 57) (n := 0) rfl rfl rfl rfl ?_
  refine jp_con (pc2 := 58) (v := (.int (nI 0))) rfl rfl rfl ?_
  exact jp_virt0 (pc2 := 61) (As := [(.int (nI 0))]) (rest := []) rfl rfl rfl (Nat.le_of_ble_eq_true rfl) e2 m3 m4 hc rfl K
theorem c67_61 {r_0 : Nat} {r_1 : Nat} {r_2 : Nat} {a_3 : Nat} {a_4 : Nat} {a_5 : Nat} {a_6 : Nat} {sa_0 : Nat} (c1 : sa_0 < 2147483648) (K1 : ¬ sa_0 = 0 → ip sc call 67 MC MS Q 66 [some (.ref r_0), some (.ref r_1), some (.ref r_2), some (.int (nI a_3)), some (.int (nI a_4)), some (.int (nI a_5)), some (.int (nI a_6))] [] h z c s) (K2 : ¬ (¬ sa_0 = 0) → ip sc call 67 MC MS Q 64 [some (.ref r_0), some (.ref r_1), some (.ref r_2), some (.int (nI a_3)), some (.int (nI a_4)), some (.int (nI a_5)), some (.int (nI a_6))] [] h z c s) : ip sc call 67 MC MS Q 61 [some (.ref r_0), some (.ref r_1), some (.ref r_2), some (.int (nI a_3)), some (.int (nI a_4)), some (.int (nI a_5)), some (.int (nI a_6))] [(.int (nI sa_0))] h z c s := by
  exact jp_if0 (pc2 := 64) rfl rfl (fun q => K1 ((not_congr (nI_eq c1 (by decide))).mp q)) (fun q => K2 (fun r => q ((not_congr (nI_eq c1 (by decide))).mpr r)))
theorem c67_64 {o_0 : Option Value} {o_1 : Option Value} {o_2 : Option Value} {a_3 : Nat} {o_4 : Option Value} {o_5 : Option Value} {o_6 : Option Value} (q1 : Q (some (.int (nI a_3))) h z)  : ip sc call 67 MC MS Q 64 [o_0, o_1, o_2, some (.int (nI a_3)), o_4, o_5, o_6] [] h z c s := by
  refine jp_load (pc2 := 65) (n := 3) rfl rfl rfl rfl ?_
  exact ip_iret (st := []) rfl rfl rfl q1
theorem c67_66 {r_0 : Nat} {r_1 : Nat} {r_2 : Nat} {a_3 : Nat} {a_4 : Nat} {a_5 : Nat} {a_6 : Nat}  (K : ip sc call 67 MC MS Q 34 [some (.ref r_0), some (.ref r_1), some (.ref r_2), some (.int (nI (a_3 + 1))), some (.int (nI a_4)), some (.int (nI a_5)), some (.int (nI (a_6 + 1)))] [] h z c s) : ip sc call 67 MC MS Q 66 [some (.ref r_0), some (.ref r_1), some (.ref r_2), some (.int (nI a_3)), some (.int (nI a_4)), some (.int (nI a_5)), some (.int (nI a_6))] [] h z c s := by
  refine jp_iinc (pc2 := 69) (n := 3) (v := nI (a_3 + 1)) rfl rfl rfl (nI_add _ 1) rfl ?_
  refine jp_iinc (pc2 := 72) (n := 6) (v := nI (a_6 + 1)) rfl rfl rfl (nI_add _ 1) rfl ?_
  refine ip_goto rfl ?_
  exact K
theorem c67_75 {r_0 : Nat} {r_1 : Nat} {r_2 : Nat} {a_3 : Nat} {a_4 : Nat} {o_5 : Option Value} {o_6 : Option Value}  (K : ip sc call 67 MC MS Q 9 [some (.ref r_0), some (.ref r_1), some (.ref r_2), some (.int (nI a_3)), some (.int (nI (a_4 + 1))), o_5, o_6] [] h z c s) : ip sc call 67 MC MS Q 75 [some (.ref r_0), some (.ref r_1), some (.ref r_2), some (.int (nI a_3)), some (.int (nI a_4)), o_5, o_6] [] h z c s := by
  refine jp_iinc (pc2 := 78) (n := 4) (v := nI (a_4 + 1)) rfl rfl rfl (nI_add _ 1) rfl ?_
  refine ip_goto rfl ?_
  exact K
theorem c67_81 {o_0 : Option Value} {o_1 : Option Value} {o_2 : Option Value} {o_3 : Option Value} {o_4 : Option Value} {o_5 : Option Value} {o_6 : Option Value} (q1 : Q (some (.int ((-1)))) h z)  : ip sc call 67 MC MS Q 81 [o_0, o_1, o_2, o_3, o_4, o_5, o_6] [] h z c s := by
  refine jp_con (pc2 := 82) (v := (.int ((-1)))) rfl rfl rfl ?_
  exact ip_iret (st := []) rfl rfl rfl q1
theorem c68_0 {r_0 : Nat} {a_1 : Nat} {o_2 : Option Value} {o_3 : Option Value} {o_4 : Option Value} {o_5 : Option Value} {o_6 : Option Value} {fs1 : List Value} {q_fs1_0 : Nat} {q_fs1_3 : Nat} {fs5 : List Value} {P : ipQ} (e2 : h r_0 = some (.inr (7, fs1))) (e3 : fs1[0]? = some (.ref q_fs1_0)) (e4 : fs1[3]? = some (.ref q_fs1_3)) (e6 : h q_fs1_0 = some (.inr (5, fs5))) (m7 : c ≤ MC) (m8 : s ≤ MS) (hc : call 30 [(.ref q_fs1_0), (.ref q_fs1_3)] h z 0 0 P) (K : ∀ (o : Option Value) (h2 : HP) (z2 : Nat), P o h2 z2 → ip sc call 68 MC MS Q 20 [some (.ref r_0), some (.int (nI a_1)), some (.int (nI 0)), some (.int (nI (a_1 * 5))), some (.int (nI (a_1 * 5))), o_5, o_6] (o.toList ++ []) h2 z2 c s) : ip sc call 68 MC MS Q 0 [some (.ref r_0), some (.int (nI a_1)), o_2, o_3, o_4, o_5, o_6] [] h z c s := by
  refine jp_con (pc2 := 1) (v := (.int (nI 0))) rfl rfl rfl ?_
  refine jp_store (pc2 := 2) (n := 2) rfl rfl ⟨rfl, rfl⟩ rfl (Nat.le_of_ble_eq_true rfl) ?_
  refine jp_load (pc2 := 3) (n := 1) rfl rfl rfl rfl ?_
  refine jp_con (pc2 := 4) (v := (.int (nI 5))) rfl rfl rfl ?_
  refine jp_bin (pc2 := 5) (v := nI (a_1 * 5)) rfl rfl (congrArg some (pk_mul _ _)) ?_
  refine jp_store (pc2 := 6) (n := 3) rfl rfl ⟨rfl, rfl⟩ rfl (Nat.le_of_ble_eq_true rfl) ?_
  refine jp_load (pc2 := 7) (n := 3) rfl rfl rfl rfl ?_
  refine jp_store (pc2 := 9) (n := 4) rfl rfl ⟨rfl, rfl⟩ rfl (Nat.le_of_ble_eq_true rfl) ?_
  refine jp_load (pc2 := 10) (n := 0) rfl rfl rfl rfl ?_
  refine jp_getf (pc2 := 13) rfl rfl e2 e3 ?_
  refine jp_load (pc2 := 14) (n := 0) rfl rfl rfl rfl ?_
  refine jp_getf (pc2 := 17) rfl rfl e2 e4 ?_
  exact jp_virt0 (pc2 := 20) (As := [(.ref q_fs1_3)]) (rest := []) rfl rfl rfl (Nat.le_of_ble_eq_true rfl) e6 m7 m8 hc rfl K
theorem c68_20 {r_0 : Nat} {a_1 : Nat} {a_2 : Nat} {a_3 : Nat} {a_4 : Nat} {o_5 : Option Value} {o_6 : Option Value}  (K : ip sc call 68 MC MS Q 23 [some (.ref r_0), some (.int (nI a_1)), some (.int (nI a_2)), some (.int (nI a_3)), some (.int (nI a_4)), some (.int (nI 0)), o_6] [] h z c s) : ip sc call 68 MC MS Q 20 [some (.ref r_0), some (.int (nI a_1)), some (.int (nI a_2)), some (.int (nI a_3)), some (.int (nI a_4)), o_5, o_6] [] h z c s := by
  refine jp_con (pc2 := 21) (v := (.int (nI 0))) rfl rfl rfl ?_
  refine jp_store (pc2 := 23) (n := 5) rfl rfl ⟨rfl, rfl⟩ rfl (Nat.le_of_ble_eq_true rfl) ?_
  exact K
theorem c68_23 {r_0 : Nat} {a_1 : Nat} {a_2 : Nat} {a_3 : Nat} {a_4 : Nat} {a_5 : Nat} {o_6 : Option Value} (c1 : a_5 < 2147483648) (K1 : 5 ≤ a_5 → ip sc call 68 MC MS Q 127 [some (.ref r_0), some (.int (nI a_1)), some (.int (nI a_2)), some (.int (nI a_3)), some (.int (nI a_4)), some (.int (nI a_5)), o_6] [] h z c s) (K2 : ¬ (5 ≤ a_5) → ip sc call 68 MC MS Q 29 [some (.ref r_0), some (.int (nI a_1)), some (.int (nI a_2)), some (.int (nI a_3)), some (.int (nI a_4)), some (.int (nI a_5)), o_6] [] h z c s) : ip sc call 68 MC MS Q 23 [some (.ref r_0), some (.int (nI a_1)), some (.int (nI a_2)), some (.int (nI a_3)), some (.int (nI a_4)), some (.int (nI a_5)), o_6] [] h z c s := by
  refine jp_load (pc2 := 25) (n := 5) rfl rfl rfl rfl ?_
  refine jp_con (pc2 := 26) (v := (.int (nI 5))) rfl rfl rfl ?_
  exact jp_icmp (pc2 := 29) rfl rfl (fun q => K1 ((nI_leI (by decide) c1).mp q)) (fun q => K2 (fun r => q ((nI_leI (by decide) c1).mpr r)))
theorem c68_29 {r_0 : Nat} {a_1 : Nat} {a_2 : Nat} {a_3 : Nat} {a_4 : Nat} {a_5 : Nat} {o_6 : Option Value} {fs1 : List Value} {q_fs1_0 : Nat} {q_fs1_3 : Nat} {fs5 : List Value} {v_fs5_7 : Nat} {fs8 : List Value} {P : ipQ} (e2 : h r_0 = some (.inr (7, fs1))) (e3 : fs1[0]? = some (.ref q_fs1_0)) (e4 : fs1[3]? = some (.ref q_fs1_3)) (e6 : h q_fs1_3 = some (.inr (6, fs5))) (e7 : fs5[7]? = some (.int (nI v_fs5_7))) (e9 : h q_fs1_0 = some (.inr (5, fs8))) (m10 : c ≤ MC) (m11 : s ≤ MS) (hc : call 33 [(.ref q_fs1_0), (.int (nI v_fs5_7))] h z 0 0 P) (K : ∀ (o : Option Value) (h2 : HP) (z2 : Nat), P o h2 z2 → ip sc call 68 MC MS Q 43 [some (.ref r_0), some (.int (nI a_1)), some (.int (nI a_2)), some (.int (nI a_3)), some (.int (nI a_4)), some (.int (nI a_5)), o_6] (o.toList ++ []) h2 z2 c s) : ip sc call 68 MC MS Q 29 [some (.ref r_0), some (.int (nI a_1)), some (.int (nI a_2)), some (.int (nI a_3)), some (.int (nI a_4)), some (.int (nI a_5)), o_6] [] h z c s := by
  refine jp_load (pc2 := 30) (n := 0) rfl rfl rfl rfl ?_
  refine jp_getf (pc2 := 33) rfl rfl e2 e3 ?_
  refine jp_load (pc2 := 34) (n := 0) rfl rfl rfl rfl ?_
  refine jp_getf (pc2 := 37) rfl rfl e2 e4 ?_
  refine jp_getf (pc2 := 40) rfl rfl e6 e7 ?_
  exact jp_virt0 (pc2 := 43) (As := [(.int (nI v_fs5_7))]) (rest := []) rfl rfl rfl (Nat.le_of_ble_eq_true rfl) e9 m10 m11 hc rfl K
theorem c68_43 {r_0 : Nat} {a_1 : Nat} {a_2 : Nat} {a_3 : Nat} {a_4 : Nat} {a_5 : Nat} {o_6 : Option Value} {sa_0 : Nat} (c1 : sa_0 < 2147483648) (K1 : ¬ sa_0 = 0 → ip sc call 68 MC MS Q 53 [some (.ref r_0), some (.int (nI a_1)), some (.int (nI a_2)), some (.int (nI a_3)), some (.int (nI a_4)), some (.int (nI a_5)), some (.int (nI sa_0))] [] h z c s) (K2 : ¬ (¬ sa_0 = 0) → ip sc call 68 MC MS Q 50 [some (.ref r_0), some (.int (nI a_1)), some (.int (nI a_2)), some (.int (nI a_3)), some (.int (nI a_4)), some (.int (nI a_5)), some (.int (nI sa_0))] [] h z c s) : ip sc call 68 MC MS Q 43 [some (.ref r_0), some (.int (nI a_1)), some (.int (nI a_2)), some (.int (nI a_3)), some (.int (nI a_4)), some (.int (nI a_5)), o_6] [(.int (nI sa_0))] h z c s := by
  refine jp_store (pc2 := 45) (n := 6) rfl rfl ⟨rfl, rfl⟩ rfl (Nat.le_of_ble_eq_true rfl) ?_
  refine jp_load (pc2 := 47) (n := 6) rfl rfl rfl rfl ?_
  exact jp_if0 (pc2 := 50) rfl rfl (fun q => K1 ((not_congr (nI_eq c1 (by decide))).mp q)) (fun q => K2 (fun r => q ((not_congr (nI_eq c1 (by decide))).mpr r)))
theorem c68_50 {r_0 : Nat} {a_1 : Nat} {a_2 : Nat} {a_3 : Nat} {a_4 : Nat} {o_5 : Option Value} {o_6 : Option Value}  (K : ip sc call 68 MC MS Q 127 [some (.ref r_0), some (.int (nI a_1)), some (.int (nI a_2)), some (.int (nI a_3)), some (.int (nI a_4)), o_5, o_6] [] h z c s) : ip sc call 68 MC MS Q 50 [some (.ref r_0), some (.int (nI a_1)), some (.int (nI a_2)), some (.int (nI a_3)), some (.int (nI a_4)), o_5, o_6] [] h z c s := by
  refine ip_goto rfl ?_
  exact K
theorem c68_53 {r_0 : Nat} {a_1 : Nat} {a_2 : Nat} {a_3 : Nat} {a_4 : Nat} {a_5 : Nat} {a_6 : Nat} {fs1 : List Value} {q_fs1_0 : Nat} {q_fs1_3 : Nat} {fs5 : List Value} {P : ipQ} (e2 : h r_0 = some (.inr (7, fs1))) (e3 : fs1[0]? = some (.ref q_fs1_0)) (e4 : fs1[3]? = some (.ref q_fs1_3)) (e6 : h q_fs1_0 = some (.inr (5, fs5))) (m7 : c ≤ MC) (m8 : s ≤ MS) (hc : call 34 [(.ref q_fs1_0), (.int (nI a_6)), (.ref q_fs1_3)] h z 0 0 P) (K : ∀ (o : Option Value) (h2 : HP) (z2 : Nat), P o h2 z2 → ip sc call 68 MC MS Q 66 [some (.ref r_0), some (.int (nI a_1)), some (.int (nI a_2)), some (.int (nI a_3)), some (.int (nI a_4)), some (.int (nI a_5)), some (.int (nI a_6))] (o.toList ++ []) h2 z2 c s) : ip sc call 68 MC MS Q 53 [some (.ref r_0), some (.int (nI a_1)), some (.int (nI a_2)), some (.int (nI a_3)), some (.int (nI a_4)), some (.int (nI a_5)), some (.int (nI a_6))] [] h z c s := by
  refine jp_load (pc2 := 54) (n := 0) rfl rfl rfl rfl ?_
  refine jp_getf (pc2 := 57) rfl rfl e2 e3 ?_
  refine jp_load (pc2 := 59) (n := 6) rfl rfl rfl rfl ?_
  refine jp_load (pc2 := 60) (n := 0) rfl rfl rfl rfl ?_
  refine jp_getf (pc2 := 63) rfl rfl e2 e4 ?_
  exact jp_virt0 (pc2 := 66) (As := [(.int (nI a_6)), (.ref q_fs1_3)]) (rest := []) rfl rfl rfl (Nat.le_of_ble_eq_true rfl) e6 m7 m8 hc rfl K
theorem c68_66 {r_0 : Nat} {a_1 : Nat} {a_2 : Nat} {a_3 : Nat} {a_4 : Nat} {a_5 : Nat} {a_6 : Nat} {sa_0 : Nat} (c1 : sa_0 < 2147483648) (K1 : ¬ sa_0 = 2 → ip sc call 68 MC MS Q 77 [some (.ref r_0), some (.int (nI a_1)), some (.int (nI a_2)), some (.int (nI a_3)), some (.int (nI a_4)), some (.int (nI a_5)), some (.int (nI a_6))] [] h z c s) (K2 : ¬ (¬ sa_0 = 2) → ip sc call 68 MC MS Q 70 [some (.ref r_0), some (.int (nI a_1)), some (.int (nI a_2)), some (.int (nI a_3)), some (.int (nI a_4)), some (.int (nI a_5)), some (.int (nI a_6))] [] h z c s) : ip sc call 68 MC MS Q 66 [some (.ref r_0), some (.int (nI a_1)), some (.int (nI a_2)), some (.int (nI a_3)), some (.int (nI a_4)), some (.int (nI a_5)), some (.int (nI a_6))] [(.int (nI sa_0))] h z c s := by
  refine jp_con (pc2 := 67) (v := (.int (nI 2))) rfl rfl rfl ?_
  exact jp_icmp (pc2 := 70) rfl rfl (fun q => K1 ((not_congr (nI_eq c1 (by decide))).mp q)) (fun q => K2 (fun r => q ((not_congr (nI_eq c1 (by decide))).mpr r)))
theorem c68_70 {r_0 : Nat} {a_1 : Nat} {a_2 : Nat} {a_3 : Nat} {a_4 : Nat} {a_5 : Nat} {o_6 : Option Value}  (K : ip sc call 68 MC MS Q 121 [some (.ref r_0), some (.int (nI a_1)), some (.int ((nI a_2) ^^^ (nI 1))), some (.int (nI a_3)), some (.int (nI a_4)), some (.int (nI a_5)), o_6] [] h z c s) : ip sc call 68 MC MS Q 70 [some (.ref r_0), some (.int (nI a_1)), some (.int (nI a_2)), some (.int (nI a_3)), some (.int (nI a_4)), some (.int (nI a_5)), o_6] [] h z c s := by
  refine jp_load (pc2 := 71) (n := 2) rfl rfl rfl rfl ?_
  refine jp_con (pc2 := 72) (v := (.int (nI 1))) rfl rfl rfl ?_
  refine jp_bin (pc2 := 73) (v := (nI a_2) ^^^ (nI 1)) rfl rfl rfl ?_
  refine jp_store (pc2 := 74) (n := 2) rfl rfl ⟨rfl, rfl⟩ rfl (Nat.le_of_ble_eq_true rfl) ?_
  refine ip_goto rfl ?_
  exact K
theorem c68_77 {r_0 : Nat} {a_1 : Nat} {a_2 : Nat} {a_3 : Nat} {a_4 : Nat} {a_5 : Nat} {a_6 : Nat} {fs1 : List Value} {q_fs1_1 : Nat} {q_fs1_3 : Nat} {fs5 : List Value} {P : ipQ} (e2 : h r_0 = some (.inr (7, fs1))) (e3 : fs1[1]? = some (.ref q_fs1_1)) (e4 : fs1[3]? = some (.ref q_fs1_3)) (e6 : h q_fs1_1 = some (.inr (3, fs5))) (m7 : c ≤ MC) (m8 : s ≤ MS) (hc : call 15 [(.ref q_fs1_1), (.ref q_fs1_3), (.int (nI a_6))] h z 0 0 P) (K : ∀ (o : Option Value) (h2 : HP) (z2 : Nat), P o h2 z2 → ip sc call 68 MC MS Q 90 [some (.ref r_0), some (.int (nI a_1)), some (.int (nI a_2)), some (.int (nI a_3)), some (.int (nI a_4)), some (.int (nI a_5)), some (.int (nI a_6))] (o.toList ++ []) h2 z2 c s) : ip sc call 68 MC MS Q 77 [some (.ref r_0), some (.int (nI a_1)), some (.int (nI a_2)), some (.int (nI a_3)), some (.int (nI a_4)), some (.int (nI a_5)), some (.int (nI a_6))] [] h z c s := by
  refine jp_load (pc2 := 78) (n := 0) rfl rfl rfl rfl ?_
  refine jp_getf (pc2 := 81) rfl rfl e2 e3 ?_
  refine jp_load (pc2 := 82) (n := 0) rfl rfl rfl rfl ?_
  refine jp_getf (pc2 := 85) rfl rfl e2 e4 ?_
  refine jp_load (pc2 := 87) (n := 6) rfl rfl rfl rfl ?_
  exact jp_virt0 (pc2 := 90) (As := [(.ref q_fs1_3), (.int (nI a_6))]) (rest := []) rfl rfl rfl (Nat.le_of_ble_eq_true rfl) e6 m7 m8 hc rfl K
theorem c68_90 {r_0 : Nat} {a_1 : Nat} {a_2 : Nat} {a_3 : Nat} {a_4 : Nat} {a_5 : Nat} {o_6 : Option Value} {fs1 : List Value} {q_fs1_6 : Nat} {q_fs1_1 : Nat} {fs5 : List Value} {w_fs5_11 : Int64} {n8 : Nat} {f9 : Nat → Int64} {g13 : Nat → Int64} {q_fs1_7 : Nat} {w_fs5_12 : Int64} {n19 : Nat} {f20 : Nat → Int64} {g25 : Nat → Int64} (e2 : h r_0 = some (.inr (7, fs1))) (e3 : fs1[6]? = some (.ref q_fs1_6)) (e4 : fs1[1]? = some (.ref q_fs1_1)) (e6 : h q_fs1_1 = some (.inr (3, fs5))) (e7 : fs5[11]? = some (.long w_fs5_11)) (e10 : h q_fs1_6 = some (.inl (1, n8, .inr (.inl f9)))) (b11 : a_4 < n8) (c12 : n8 < 2147483648) (d14 : vp_updL f9 a_4 w_fs5_11 = g13) (n15 : r_0 ≠ q_fs1_6) (e16 : fs1[7]? = some (.ref q_fs1_7)) (n17 : q_fs1_1 ≠ q_fs1_6) (e18 : fs5[12]? = some (.long w_fs5_12)) (e21 : h q_fs1_7 = some (.inl (1, n19, .inr (.inl f20)))) (n22 : q_fs1_7 ≠ q_fs1_6) (b23 : a_4 < n19) (c24 : n19 < 2147483648) (d26 : vp_updL f20 a_4 w_fs5_12 = g25) (K : ip sc call 68 MC MS Q 121 [some (.ref r_0), some (.int (nI a_1)), some (.int (nI a_2)), some (.int (nI a_3)), some (.int (nI (a_4 + 1))), some (.int (nI a_5)), o_6] [] (hup (hup h q_fs1_6 (.inl (1, n8, .inr (.inl g13)))) q_fs1_7 (.inl (1, n19, .inr (.inl g25)))) z c s) : ip sc call 68 MC MS Q 90 [some (.ref r_0), some (.int (nI a_1)), some (.int (nI a_2)), some (.int (nI a_3)), some (.int (nI a_4)), some (.int (nI a_5)), o_6] [] h z c s := by
  refine jp_load (pc2 := 91) (n := 0) rfl rfl rfl rfl ?_
  refine jp_getf (pc2 := 94) rfl rfl e2 e3 ?_
  refine jp_load (pc2 := 96) (n := 4) rfl rfl rfl rfl ?_
  refine jp_load (pc2 := 97) (n := 0) rfl rfl rfl rfl ?_
  refine jp_getf (pc2 := 100) rfl rfl e2 e4 ?_
  refine jp_getf (pc2 := 103) rfl rfl e6 e7 ?_
  refine jp_last (pc2 := 104) rfl rfl e10 (vp_in_nI b11 c12) ?_
  rw [(nI_clamp (Nat.lt_trans b11 c12))]
  rw [d14]
  refine jp_load (pc2 := 105) (n := 0) rfl rfl rfl rfl ?_
  refine jp_getf (pc2 := 108) rfl rfl (hup_ne n15 e2) e16 ?_
  refine jp_load (pc2 := 110) (n := 4) rfl rfl rfl rfl ?_
  refine jp_load (pc2 := 111) (n := 0) rfl rfl rfl rfl ?_
  refine jp_getf (pc2 := 114) rfl rfl (hup_ne n15 e2) e4 ?_
  refine jp_getf (pc2 := 117) rfl rfl (hup_ne n17 e6) e18 ?_
  refine jp_last (pc2 := 118) rfl rfl (hup_ne n22 e21) (vp_in_nI b23 c24) ?_
  rw [(nI_clamp (Nat.lt_trans b23 c24))]
  rw [d26]
  refine jp_iinc (pc2 := 121) (n := 4) (v := nI (a_4 + 1)) rfl rfl rfl (nI_add _ 1) rfl ?_
  exact K
theorem c68_121 {r_0 : Nat} {a_1 : Nat} {a_2 : Nat} {a_3 : Nat} {a_4 : Nat} {a_5 : Nat} {o_6 : Option Value}  (K : ip sc call 68 MC MS Q 23 [some (.ref r_0), some (.int (nI a_1)), some (.int (nI a_2)), some (.int (nI a_3)), some (.int (nI a_4)), some (.int (nI (a_5 + 1))), o_6] [] h z c s) : ip sc call 68 MC MS Q 121 [some (.ref r_0), some (.int (nI a_1)), some (.int (nI a_2)), some (.int (nI a_3)), some (.int (nI a_4)), some (.int (nI a_5)), o_6] [] h z c s := by
  refine jp_iinc (pc2 := 124) (n := 5) (v := nI (a_5 + 1)) rfl rfl rfl (nI_add _ 1) rfl ?_
  refine ip_goto rfl ?_
  exact K
theorem c68_127 {r_0 : Nat} {a_1 : Nat} {a_2 : Nat} {a_3 : Nat} {a_4 : Nat} {o_5 : Option Value} {o_6 : Option Value}  (K : ip sc call 68 MC MS Q 130 [some (.ref r_0), some (.int (nI a_1)), some (.int (nI a_2)), some (.int (nI a_3)), some (.int (nI a_4)), some (.int (nI a_3)), o_6] [] h z c s) : ip sc call 68 MC MS Q 127 [some (.ref r_0), some (.int (nI a_1)), some (.int (nI a_2)), some (.int (nI a_3)), some (.int (nI a_4)), o_5, o_6] [] h z c s := by
  refine jp_load (pc2 := 128) (n := 3) rfl rfl rfl rfl ?_
  refine jp_store (pc2 := 130) (n := 5) rfl rfl ⟨rfl, rfl⟩ rfl (Nat.le_of_ble_eq_true rfl) ?_
  exact K
theorem c68_130 {r_0 : Nat} {a_1 : Nat} {a_2 : Nat} {o_3 : Option Value} {a_4 : Nat} {a_5 : Nat} {o_6 : Option Value} (c1 : a_5 < 2147483648) (c2 : a_4 < 2147483648) (K1 : a_4 ≤ a_5 → ip sc call 68 MC MS Q 165 [some (.ref r_0), some (.int (nI a_1)), some (.int (nI a_2)), o_3, some (.int (nI a_4)), some (.int (nI a_5)), o_6] [] h z c s) (K2 : ¬ (a_4 ≤ a_5) → ip sc call 68 MC MS Q 137 [some (.ref r_0), some (.int (nI a_1)), some (.int (nI a_2)), o_3, some (.int (nI a_4)), some (.int (nI a_5)), o_6] [] h z c s) : ip sc call 68 MC MS Q 130 [some (.ref r_0), some (.int (nI a_1)), some (.int (nI a_2)), o_3, some (.int (nI a_4)), some (.int (nI a_5)), o_6] [] h z c s := by
  refine jp_load (pc2 := 132) (n := 5) rfl rfl rfl rfl ?_
  refine jp_load (pc2 := 134) (n := 4) rfl rfl rfl rfl ?_
  exact jp_icmp (pc2 := 137) rfl rfl (fun q => K1 ((nI_leI c2 c1).mp q)) (fun q => K2 (fun r => q ((nI_leI c2 c1).mpr r)))
theorem c68_137 {r_0 : Nat} {a_1 : Nat} {a_2 : Nat} {o_3 : Option Value} {a_4 : Nat} {a_5 : Nat} {o_6 : Option Value} {fs1 : List Value} {q_fs1_6 : Nat} {n4 : Nat} {f5 : Nat → Int64} {q_fs1_7 : Nat} {n10 : Nat} {f11 : Nat → Int64} {P : ipQ} (e2 : h r_0 = some (.inr (7, fs1))) (e3 : fs1[6]? = some (.ref q_fs1_6)) (e6 : h q_fs1_6 = some (.inl (1, n4, .inr (.inl f5)))) (b7 : a_5 < n4) (c8 : n4 < 2147483648) (e9 : fs1[7]? = some (.ref q_fs1_7)) (e12 : h q_fs1_7 = some (.inl (1, n10, .inr (.inl f11)))) (b13 : a_5 < n10) (c14 : n10 < 2147483648) (m15 : c ≤ MC) (m16 : s ≤ MS) (hc : call 69 [(.ref r_0), (.long (f5 a_5)), (.long (f11 a_5)), (.int (nI a_1))] h z 0 0 P) (K : ∀ (o : Option Value) (h2 : HP) (z2 : Nat), P o h2 z2 → ip sc call 68 MC MS Q 157 [some (.ref r_0), some (.int (nI a_1)), some (.int (nI a_2)), o_3, some (.int (nI a_4)), some (.int (nI a_5)), o_6] (o.toList ++ [(.int (nI a_2))]) h2 z2 c s) : ip sc call 68 MC MS Q 137 [some (.ref r_0), some (.int (nI a_1)), some (.int (nI a_2)), o_3, some (.int (nI a_4)), some (.int (nI a_5)), o_6] [] h z c s := by
  refine jp_load (pc2 := 138) (n := 2) rfl rfl rfl rfl ?_
  refine jp_load (pc2 := 139) (n := 0) rfl rfl rfl rfl ?_
  refine jp_load (pc2 := 140) (n := 0) rfl rfl rfl rfl ?_
  refine jp_getf (pc2 := 143) rfl rfl e2 e3 ?_
  refine jp_load (pc2 := 145) (n := 5) rfl rfl rfl rfl ?_
  refine jp_lald (pc2 := 146) rfl rfl e6 (vp_in_nI b7 c8) ?_
  rw [(nI_clamp (Nat.lt_trans b7 c8))]
  refine jp_load (pc2 := 147) (n := 0) rfl rfl rfl rfl ?_
  refine jp_getf (pc2 := 150) rfl rfl e2 e9 ?_
  refine jp_load (pc2 := 152) (n := 5) rfl rfl rfl rfl ?_
  refine jp_lald (pc2 := 153) rfl rfl e12 (vp_in_nI b13 c14) ?_
  rw [(nI_clamp (Nat.lt_trans b13 c14))]
  refine jp_load (pc2 := 154) (n := 1) rfl rfl rfl rfl ?_
  exact jp_virt0 (pc2 := 157) (As := [(.long (f5 a_5)), (.long (f11 a_5)), (.int (nI a_1))]) (rest := [(.int (nI a_2))]) rfl rfl rfl (Nat.le_of_ble_eq_true rfl) e2 m15 m16 hc rfl K
theorem c68_157 {r_0 : Nat} {a_1 : Nat} {o_2 : Option Value} {o_3 : Option Value} {a_4 : Nat} {a_5 : Nat} {o_6 : Option Value} {sa_0 : Nat} {sa_1 : Nat}  (K : ip sc call 68 MC MS Q 130 [some (.ref r_0), some (.int (nI a_1)), some (.int ((nI sa_0) ^^^ (nI sa_1))), o_3, some (.int (nI a_4)), some (.int (nI (a_5 + 1))), o_6] [] h z c s) : ip sc call 68 MC MS Q 157 [some (.ref r_0), some (.int (nI a_1)), o_2, o_3, some (.int (nI a_4)), some (.int (nI a_5)), o_6] [(.int (nI sa_1)), (.int (nI sa_0))] h z c s := by
  refine jp_bin (pc2 := 158) (v := (nI sa_0) ^^^ (nI sa_1)) rfl rfl rfl ?_
  refine jp_store (pc2 := 159) (n := 2) rfl rfl ⟨rfl, rfl⟩ rfl (Nat.le_of_ble_eq_true rfl) ?_
  refine jp_iinc (pc2 := 162) (n := 5) (v := nI (a_5 + 1)) rfl rfl rfl (nI_add _ 1) rfl ?_
  refine ip_goto rfl ?_
  exact K
theorem c68_165 {o_0 : Option Value} {o_1 : Option Value} {a_2 : Nat} {o_3 : Option Value} {o_4 : Option Value} {o_5 : Option Value} {o_6 : Option Value} (q1 : Q (some (.int (nI a_2))) h z)  : ip sc call 68 MC MS Q 165 [o_0, o_1, some (.int (nI a_2)), o_3, o_4, o_5, o_6] [] h z c s := by
  refine jp_load (pc2 := 166) (n := 2) rfl rfl rfl rfl ?_
  exact ip_iret (st := []) rfl rfl rfl q1
theorem c69_0 {r_0 : Nat} {y_1 : Int64} {o_2 : Option Value} {y_3 : Int64} {o_4 : Option Value} {a_5 : Nat} {o_6 : Option Value} {o_7 : Option Value} {o_8 : Option Value} {o_9 : Option Value} {o_10 : Option Value} {o_11 : Option Value} {o_12 : Option Value} {fs1 : List Value} {q_fs1_2 : Nat} {fs4 : List Value} {P : ipQ} (e2 : h r_0 = some (.inr (7, fs1))) (e3 : fs1[2]? = some (.ref q_fs1_2)) (e5 : h q_fs1_2 = some (.inr (1, fs4))) (m6 : c ≤ MC) (m7 : s ≤ MS) (hc : call 8 [(.ref q_fs1_2), (.long y_1), (.long y_3)] h z 0 0 P) (K : ∀ (o : Option Value) (h2 : HP) (z2 : Nat), P o h2 z2 → ip sc call 69 MC MS Q 9 [some (.ref r_0), some (.long y_1), o_2, some (.long y_3), o_4, some (.int (nI a_5)), o_6, o_7, o_8, o_9, o_10, o_11, o_12] (o.toList ++ []) h2 z2 c s) : ip sc call 69 MC MS Q 0 [some (.ref r_0), some (.long y_1), o_2, some (.long y_3), o_4, some (.int (nI a_5)), o_6, o_7, o_8, o_9, o_10, o_11, o_12] [] h z c s := by
  refine jp_load (pc2 := 1) (n := 0) rfl rfl rfl rfl ?_
  refine jp_getf (pc2 := 4) rfl rfl e2 e3 ?_
  refine jp_load (pc2 := 5) (n := 1) rfl rfl rfl rfl ?_
  refine jp_load (pc2 := 6) (n := 3) rfl rfl rfl rfl ?_
  exact jp_virt0 (pc2 := 9) (As := [(.long y_1), (.long y_3)]) (rest := []) rfl rfl rfl (Nat.le_of_ble_eq_true rfl) e5 m6 m7 hc rfl K
theorem c69_9 {r_0 : Nat} {y_1 : Int64} {o_2 : Option Value} {y_3 : Int64} {o_4 : Option Value} {a_5 : Nat} {o_6 : Option Value} {o_7 : Option Value} {o_8 : Option Value} {o_9 : Option Value} {o_10 : Option Value} {o_11 : Option Value} {o_12 : Option Value} {sa_0 : Nat}  (K1 : (nI sa_0) = ((-1)) → ip sc call 69 MC MS Q 20 [some (.ref r_0), some (.long y_1), o_2, some (.long y_3), o_4, some (.int (nI a_5)), some (.int (nI sa_0)), o_7, o_8, o_9, o_10, o_11, o_12] [] h z c s) (K2 : ¬ ((nI sa_0) = ((-1))) → ip sc call 69 MC MS Q 17 [some (.ref r_0), some (.long y_1), o_2, some (.long y_3), o_4, some (.int (nI a_5)), some (.int (nI sa_0)), o_7, o_8, o_9, o_10, o_11, o_12] [] h z c s) : ip sc call 69 MC MS Q 9 [some (.ref r_0), some (.long y_1), o_2, some (.long y_3), o_4, some (.int (nI a_5)), o_6, o_7, o_8, o_9, o_10, o_11, o_12] [(.int (nI sa_0))] h z c s := by
  refine jp_store (pc2 := 11) (n := 6) rfl rfl ⟨rfl, rfl⟩ rfl (Nat.le_of_ble_eq_true rfl) ?_
  refine jp_load (pc2 := 13) (n := 6) rfl rfl rfl rfl ?_
  refine jp_con (pc2 := 14) (v := (.int ((-1)))) rfl rfl rfl ?_
  exact jp_icmp (pc2 := 17) rfl rfl K1 K2
theorem c69_17 {o_0 : Option Value} {o_1 : Option Value} {o_2 : Option Value} {o_3 : Option Value} {o_4 : Option Value} {o_5 : Option Value} {a_6 : Nat} {o_7 : Option Value} {o_8 : Option Value} {o_9 : Option Value} {o_10 : Option Value} {o_11 : Option Value} {o_12 : Option Value} (q1 : Q (some (.int (nI a_6))) h z)  : ip sc call 69 MC MS Q 17 [o_0, o_1, o_2, o_3, o_4, o_5, some (.int (nI a_6)), o_7, o_8, o_9, o_10, o_11, o_12] [] h z c s := by
  refine jp_load (pc2 := 19) (n := 6) rfl rfl rfl rfl ?_
  exact ip_iret (st := []) rfl rfl rfl q1
theorem c69_20 {r_0 : Nat} {y_1 : Int64} {o_2 : Option Value} {y_3 : Int64} {o_4 : Option Value} {a_5 : Nat} {o_6 : Option Value} {o_7 : Option Value} {o_8 : Option Value} {o_9 : Option Value} {o_10 : Option Value} {o_11 : Option Value} {o_12 : Option Value} (c1 : a_5 < 2147483648) (K1 : a_5 < 9 → ip sc call 69 MC MS Q 29 [some (.ref r_0), some (.long y_1), o_2, some (.long y_3), o_4, some (.int (nI a_5)), o_6, o_7, o_8, o_9, o_10, o_11, o_12] [] h z c s) (K2 : ¬ (a_5 < 9) → ip sc call 69 MC MS Q 27 [some (.ref r_0), some (.long y_1), o_2, some (.long y_3), o_4, some (.int (nI a_5)), o_6, o_7, o_8, o_9, o_10, o_11, o_12] [] h z c s) : ip sc call 69 MC MS Q 20 [some (.ref r_0), some (.long y_1), o_2, some (.long y_3), o_4, some (.int (nI a_5)), o_6, o_7, o_8, o_9, o_10, o_11, o_12] [] h z c s := by
  refine jp_load (pc2 := 22) (n := 5) rfl rfl rfl rfl ?_
  refine jp_con (pc2 := 24) (v := (.int (nI 9))) rfl rfl rfl ?_
  exact jp_icmp (pc2 := 27) rfl rfl (fun q => K1 ((nI_ltI c1 (by decide)).mp q)) (fun q => K2 (fun r => q ((nI_ltI c1 (by decide)).mpr r)))
theorem c69_27 {o_0 : Option Value} {o_1 : Option Value} {o_2 : Option Value} {o_3 : Option Value} {o_4 : Option Value} {o_5 : Option Value} {o_6 : Option Value} {o_7 : Option Value} {o_8 : Option Value} {o_9 : Option Value} {o_10 : Option Value} {o_11 : Option Value} {o_12 : Option Value} (q1 : Q (some (.int (nI 0))) h z)  : ip sc call 69 MC MS Q 27 [o_0, o_1, o_2, o_3, o_4, o_5, o_6, o_7, o_8, o_9, o_10, o_11, o_12] [] h z c s := by
  refine jp_con (pc2 := 28) (v := (.int (nI 0))) rfl rfl rfl ?_
  exact ip_iret (st := []) rfl rfl rfl q1
theorem c69_29 {r_0 : Nat} {y_1 : Int64} {o_2 : Option Value} {y_3 : Int64} {o_4 : Option Value} {a_5 : Nat} {o_6 : Option Value} {o_7 : Option Value} {o_8 : Option Value} {o_9 : Option Value} {o_10 : Option Value} {o_11 : Option Value} {o_12 : Option Value} {fs1 : List Value} {q_fs1_4 : Nat} {n4 : Nat} {f5 : Nat → Option Nat} {q9 : Nat} {P : ipQ} (e2 : h r_0 = some (.inr (7, fs1))) (e3 : fs1[4]? = some (.ref q_fs1_4)) (e6 : h q_fs1_4 = some (.inl (5, n4, .inr (.inr (.inr (.inr f5)))))) (b7 : a_5 < n4) (c8 : n4 < 2147483648) (e10 : f5 a_5 = some q9) (k11 : ip2 o_6 = false) (m12 : c ≤ MC) (m13 : s ≤ MS) (hc : call 70 [(.ref r_0), (.long y_1), (.long y_3), (.ref q9)] h z 0 0 P) (K : ∀ (o : Option Value) (h2 : HP) (z2 : Nat), P o h2 z2 → ip sc call 69 MC MS Q 46 [some (.ref r_0), some (.long y_1), o_2, some (.long y_3), o_4, some (.int (nI a_5)), o_6, some (.ref q9), o_8, o_9, o_10, o_11, o_12] (o.toList ++ []) h2 z2 c s) : ip sc call 69 MC MS Q 29 [some (.ref r_0), some (.long y_1), o_2, some (.long y_3), o_4, some (.int (nI a_5)), o_6, o_7, o_8, o_9, o_10, o_11, o_12] [] h z c s := by
  refine jp_load (pc2 := 30) (n := 0) rfl rfl rfl rfl ?_
  refine jp_getf (pc2 := 33) rfl rfl e2 e3 ?_
  refine jp_load (pc2 := 35) (n := 5) rfl rfl rfl rfl ?_
  refine jp_aald (pc2 := 36) rfl rfl e6 (by decide) (vp_in_nI b7 c8) ((congrArg f5 (nI_clamp (Nat.lt_trans b7 c8))).trans e10) ?_
  refine jp_store (pc2 := 38) (n := 7) rfl rfl ⟨rfl, rfl⟩ k11 (Nat.le_of_ble_eq_true rfl) ?_
  refine jp_load (pc2 := 39) (n := 0) rfl rfl rfl rfl ?_
  refine jp_load (pc2 := 40) (n := 1) rfl rfl rfl rfl ?_
  refine jp_load (pc2 := 41) (n := 3) rfl rfl rfl rfl ?_
  refine jp_load (pc2 := 43) (n := 7) rfl rfl rfl rfl ?_
  exact jp_virt0 (pc2 := 46) (As := [(.long y_1), (.long y_3), (.ref q9)]) (rest := []) rfl rfl rfl (Nat.le_of_ble_eq_true rfl) e2 m12 m13 hc rfl K
theorem c69_46 {r_0 : Nat} {y_1 : Int64} {o_2 : Option Value} {y_3 : Int64} {o_4 : Option Value} {a_5 : Nat} {o_6 : Option Value} {r_7 : Nat} {o_8 : Option Value} {o_9 : Option Value} {o_10 : Option Value} {o_11 : Option Value} {o_12 : Option Value} {fs1 : List Value} {q_fs1_5 : Nat} {n4 : Nat} {f5 : Nat → Option Nat} {q9 : Nat} {fs11 : List Value} {P : ipQ} (e2 : h r_0 = some (.inr (7, fs1))) (e3 : fs1[5]? = some (.ref q_fs1_5)) (e6 : h q_fs1_5 = some (.inl (4, n4, .inr (.inr (.inr (.inr f5)))))) (b7 : a_5 < n4) (c8 : n4 < 2147483648) (e10 : f5 a_5 = some q9) (e12 : h q9 = some (.inr (2, fs11))) (m13 : c ≤ MC) (m14 : s ≤ MS) (hc : call 11 [(.ref q9)] h z 0 0 P) (K : ∀ (o : Option Value) (h2 : HP) (z2 : Nat), P o h2 z2 → ip sc call 69 MC MS Q 63 [some (.ref r_0), some (.long y_1), o_2, some (.long y_3), o_4, some (.int (nI a_5)), o_6, some (.ref r_7), some (.ref q9), some (.int (nI 0)), o_10, o_11, o_12] (o.toList ++ []) h2 z2 c s) : ip sc call 69 MC MS Q 46 [some (.ref r_0), some (.long y_1), o_2, some (.long y_3), o_4, some (.int (nI a_5)), o_6, some (.ref r_7), o_8, o_9, o_10, o_11, o_12] [] h z c s := by
  refine jp_load (pc2 := 47) (n := 0) rfl rfl rfl rfl ?_
  refine jp_getf (pc2 := 50) rfl rfl e2 e3 ?_
  refine jp_load (pc2 := 52) (n := 5) rfl rfl rfl rfl ?_
  refine jp_aald (pc2 := 53) rfl rfl e6 (by decide) (vp_in_nI b7 c8) ((congrArg f5 (nI_clamp (Nat.lt_trans b7 c8))).trans e10) ?_
  refine jp_store (pc2 := 55) (n := 8) rfl rfl ⟨rfl, rfl⟩ rfl (Nat.le_of_ble_eq_true rfl) ?_
  refine jp_con (pc2 := 56) (v := (.int (nI 0))) rfl rfl rfl ?_
  refine jp_store (pc2 := 58) (n := 9) rfl rfl ⟨rfl, rfl⟩ rfl (Nat.le_of_ble_eq_true rfl) ?_
  refine jp_load (pc2 := 60) (n := 8) rfl rfl rfl rfl ?_
  exact jp_virt0 (pc2 := 63) (As := []) (rest := []) rfl rfl rfl (Nat.le_of_ble_eq_true rfl) e12 m13 m14 hc rfl K
theorem c69_63 {r_0 : Nat} {y_1 : Int64} {o_2 : Option Value} {y_3 : Int64} {o_4 : Option Value} {a_5 : Nat} {o_6 : Option Value} {r_7 : Nat} {r_8 : Nat} {a_9 : Nat} {o_10 : Option Value} {o_11 : Option Value} {o_12 : Option Value}  (K : ip sc call 69 MC MS Q 66 [some (.ref r_0), some (.long y_1), o_2, some (.long y_3), o_4, some (.int (nI a_5)), o_6, some (.ref r_7), some (.ref r_8), some (.int (nI a_9)), some (.int (nI 0)), o_11, o_12] [] h z c s) : ip sc call 69 MC MS Q 63 [some (.ref r_0), some (.long y_1), o_2, some (.long y_3), o_4, some (.int (nI a_5)), o_6, some (.ref r_7), some (.ref r_8), some (.int (nI a_9)), o_10, o_11, o_12] [] h z c s := by
  refine jp_con (pc2 := 64) (v := (.int (nI 0))) rfl rfl rfl ?_
  refine jp_store (pc2 := 66) (n := 10) rfl rfl ⟨rfl, rfl⟩ rfl (Nat.le_of_ble_eq_true rfl) ?_
  exact K
theorem c69_66 {r_0 : Nat} {y_1 : Int64} {o_2 : Option Value} {y_3 : Int64} {o_4 : Option Value} {a_5 : Nat} {o_6 : Option Value} {r_7 : Nat} {r_8 : Nat} {a_9 : Nat} {a_10 : Nat} {o_11 : Option Value} {o_12 : Option Value} (c1 : a_10 < 2147483648) (K1 : 1000000 ≤ a_10 → ip sc call 69 MC MS Q 147 [some (.ref r_0), some (.long y_1), o_2, some (.long y_3), o_4, some (.int (nI a_5)), o_6, some (.ref r_7), some (.ref r_8), some (.int (nI a_9)), some (.int (nI a_10)), o_11, o_12] [] h z c s) (K2 : ¬ (1000000 ≤ a_10) → ip sc call 69 MC MS Q 73 [some (.ref r_0), some (.long y_1), o_2, some (.long y_3), o_4, some (.int (nI a_5)), o_6, some (.ref r_7), some (.ref r_8), some (.int (nI a_9)), some (.int (nI a_10)), o_11, o_12] [] h z c s) : ip sc call 69 MC MS Q 66 [some (.ref r_0), some (.long y_1), o_2, some (.long y_3), o_4, some (.int (nI a_5)), o_6, some (.ref r_7), some (.ref r_8), some (.int (nI a_9)), some (.int (nI a_10)), o_11, o_12] [] h z c s := by
  refine jp_load (pc2 := 68) (n := 10) rfl rfl rfl rfl ?_
  refine jp_con (pc2 := 70) (v := (.int (nI 1000000))) rfl rfl rfl ?_
  exact jp_icmp (pc2 := 73) rfl rfl (fun q => K1 ((nI_leI (by decide) c1).mp q)) (fun q => K2 (fun r => q ((nI_leI (by decide) c1).mpr r)))
theorem c69_73 {r_0 : Nat} {y_1 : Int64} {o_2 : Option Value} {y_3 : Int64} {o_4 : Option Value} {a_5 : Nat} {o_6 : Option Value} {r_7 : Nat} {r_8 : Nat} {a_9 : Nat} {a_10 : Nat} {o_11 : Option Value} {o_12 : Option Value} {fs1 : List Value} {P : ipQ} (e2 : h r_7 = some (.inr (6, fs1))) (m3 : c ≤ MC) (m4 : s ≤ MS) (hc : call 46 [(.ref r_7), (.ref r_8)] h z 0 0 P) (K : ∀ (o : Option Value) (h2 : HP) (z2 : Nat), P o h2 z2 → ip sc call 69 MC MS Q 80 [some (.ref r_0), some (.long y_1), o_2, some (.long y_3), o_4, some (.int (nI a_5)), o_6, some (.ref r_7), some (.ref r_8), some (.int (nI a_9)), some (.int (nI a_10)), o_11, o_12] (o.toList ++ []) h2 z2 c s) : ip sc call 69 MC MS Q 73 [some (.ref r_0), some (.long y_1), o_2, some (.long y_3), o_4, some (.int (nI a_5)), o_6, some (.ref r_7), some (.ref r_8), some (.int (nI a_9)), some (.int (nI a_10)), o_11, o_12] [] h z c s := by
  refine jp_load (pc2 := 75) (n := 7) rfl rfl rfl rfl ?_
  refine jp_load (pc2 := 77) (n := 8) rfl rfl rfl rfl ?_
  exact jp_virt0 (pc2 := 80) (As := [(.ref r_8)]) (rest := []) rfl rfl rfl (Nat.le_of_ble_eq_true rfl) e2 m3 m4 hc rfl K
theorem c69_80 {r_0 : Nat} {y_1 : Int64} {o_2 : Option Value} {y_3 : Int64} {o_4 : Option Value} {a_5 : Nat} {o_6 : Option Value} {r_7 : Nat} {r_8 : Nat} {a_9 : Nat} {a_10 : Nat} {o_11 : Option Value} {o_12 : Option Value} {sa_0 : Nat} (c1 : sa_0 < 2147483648) (K1 : sa_0 = 0 → ip sc call 69 MC MS Q 147 [some (.ref r_0), some (.long y_1), o_2, some (.long y_3), o_4, some (.int (nI a_5)), o_6, some (.ref r_7), some (.ref r_8), some (.int (nI a_9)), some (.int (nI a_10)), o_11, o_12] [] h z c s) (K2 : ¬ (sa_0 = 0) → ip sc call 69 MC MS Q 83 [some (.ref r_0), some (.long y_1), o_2, some (.long y_3), o_4, some (.int (nI a_5)), o_6, some (.ref r_7), some (.ref r_8), some (.int (nI a_9)), some (.int (nI a_10)), o_11, o_12] [] h z c s) : ip sc call 69 MC MS Q 80 [some (.ref r_0), some (.long y_1), o_2, some (.long y_3), o_4, some (.int (nI a_5)), o_6, some (.ref r_7), some (.ref r_8), some (.int (nI a_9)), some (.int (nI a_10)), o_11, o_12] [(.int (nI sa_0))] h z c s := by
  exact jp_if0 (pc2 := 83) rfl rfl (fun q => K1 ((nI_eq c1 (by decide)).mp q)) (fun q => K2 (fun r => q ((nI_eq c1 (by decide)).mpr r)))
theorem c69_83 {r_0 : Nat} {y_1 : Int64} {o_2 : Option Value} {y_3 : Int64} {o_4 : Option Value} {a_5 : Nat} {o_6 : Option Value} {r_7 : Nat} {r_8 : Nat} {a_9 : Nat} {a_10 : Nat} {o_11 : Option Value} {o_12 : Option Value} {fs1 : List Value} {P : ipQ} (e2 : h r_7 = some (.inr (6, fs1))) (m3 : c ≤ MC) (m4 : s ≤ MS) (hc : call 44 [(.ref r_7), (.ref r_8)] h z 0 0 P) (K : ∀ (o : Option Value) (h2 : HP) (z2 : Nat), P o h2 z2 → ip sc call 69 MC MS Q 90 [some (.ref r_0), some (.long y_1), o_2, some (.long y_3), o_4, some (.int (nI a_5)), o_6, some (.ref r_7), some (.ref r_8), some (.int (nI a_9)), some (.int (nI a_10)), o_11, o_12] (o.toList ++ []) h2 z2 c s) : ip sc call 69 MC MS Q 83 [some (.ref r_0), some (.long y_1), o_2, some (.long y_3), o_4, some (.int (nI a_5)), o_6, some (.ref r_7), some (.ref r_8), some (.int (nI a_9)), some (.int (nI a_10)), o_11, o_12] [] h z c s := by
  refine jp_load (pc2 := 85) (n := 7) rfl rfl rfl rfl ?_
  refine jp_load (pc2 := 87) (n := 8) rfl rfl rfl rfl ?_
  exact jp_virt0 (pc2 := 90) (As := [(.ref r_8)]) (rest := []) rfl rfl rfl (Nat.le_of_ble_eq_true rfl) e2 m3 m4 hc rfl K
theorem c69_90 {r_0 : Nat} {y_1 : Int64} {o_2 : Option Value} {y_3 : Int64} {o_4 : Option Value} {a_5 : Nat} {o_6 : Option Value} {r_7 : Nat} {r_8 : Nat} {a_9 : Nat} {a_10 : Nat} {o_11 : Option Value} {o_12 : Option Value} {sa_0 : Nat}  (K : ip sc call 69 MC MS Q 95 [some (.ref r_0), some (.long y_1), o_2, some (.long y_3), o_4, some (.int (nI a_5)), o_6, some (.ref r_7), some (.ref r_8), some (.int (nI a_9)), some (.int (nI a_10)), some (.int (nI sa_0)), some (.int (nI 0))] [] h z c s) : ip sc call 69 MC MS Q 90 [some (.ref r_0), some (.long y_1), o_2, some (.long y_3), o_4, some (.int (nI a_5)), o_6, some (.ref r_7), some (.ref r_8), some (.int (nI a_9)), some (.int (nI a_10)), o_11, o_12] [(.int (nI sa_0))] h z c s := by
  refine jp_store (pc2 := 92) (n := 11) rfl rfl ⟨rfl, rfl⟩ rfl (Nat.le_of_ble_eq_true rfl) ?_
  refine jp_con (pc2 := 93) (v := (.int (nI 0))) rfl rfl rfl ?_
  refine jp_store (pc2 := 95) (n := 12) rfl rfl ⟨rfl, rfl⟩ rfl (Nat.le_of_ble_eq_true rfl) ?_
  exact K
theorem c69_95 {r_0 : Nat} {y_1 : Int64} {o_2 : Option Value} {y_3 : Int64} {o_4 : Option Value} {a_5 : Nat} {o_6 : Option Value} {r_7 : Nat} {r_8 : Nat} {a_9 : Nat} {a_10 : Nat} {a_11 : Nat} {a_12 : Nat} (c1 : a_12 < 2147483648) (c2 : a_11 < 2147483648) (K1 : a_11 ≤ a_12 → ip sc call 69 MC MS Q 141 [some (.ref r_0), some (.long y_1), o_2, some (.long y_3), o_4, some (.int (nI a_5)), o_6, some (.ref r_7), some (.ref r_8), some (.int (nI a_9)), some (.int (nI a_10)), some (.int (nI a_11)), some (.int (nI a_12))] [] h z c s) (K2 : ¬ (a_11 ≤ a_12) → ip sc call 69 MC MS Q 102 [some (.ref r_0), some (.long y_1), o_2, some (.long y_3), o_4, some (.int (nI a_5)), o_6, some (.ref r_7), some (.ref r_8), some (.int (nI a_9)), some (.int (nI a_10)), some (.int (nI a_11)), some (.int (nI a_12))] [] h z c s) : ip sc call 69 MC MS Q 95 [some (.ref r_0), some (.long y_1), o_2, some (.long y_3), o_4, some (.int (nI a_5)), o_6, some (.ref r_7), some (.ref r_8), some (.int (nI a_9)), some (.int (nI a_10)), some (.int (nI a_11)), some (.int (nI a_12))] [] h z c s := by
  refine jp_load (pc2 := 97) (n := 12) rfl rfl rfl rfl ?_
  refine jp_load (pc2 := 99) (n := 11) rfl rfl rfl rfl ?_
  exact jp_icmp (pc2 := 102) rfl rfl (fun q => K1 ((nI_leI c2 c1).mp q)) (fun q => K2 (fun r => q ((nI_leI c2 c1).mpr r)))
theorem c69_102 {r_0 : Nat} {y_1 : Int64} {o_2 : Option Value} {y_3 : Int64} {o_4 : Option Value} {a_5 : Nat} {o_6 : Option Value} {r_7 : Nat} {r_8 : Nat} {a_9 : Nat} {a_10 : Nat} {a_11 : Nat} {a_12 : Nat} {fs1 : List Value} {fs4 : List Value} {q_fs4_3 : Nat} {fs8 : List Value} {P : ipQ} (e2 : h r_8 = some (.inr (2, fs1))) (l3 : fs1.length = 6) (e5 : h r_0 = some (.inr (7, fs4))) (n6 : r_0 ≠ r_8) (e7 : fs4[3]? = some (.ref q_fs4_3)) (e9 : h q_fs4_3 = some (.inr (6, fs8))) (n10 : q_fs4_3 ≠ r_8) (m11 : c ≤ MC) (m12 : s ≤ MS) (hc : call 54 [(.ref q_fs4_3), (.ref r_7), (.ref r_8)] (hup h r_8 (.inr (2, (fs1.set 5 (.int (nI a_12)))))) z 0 0 P) (K : ∀ (o : Option Value) (h2 : HP) (z2 : Nat), P o h2 z2 → ip sc call 69 MC MS Q 120 [some (.ref r_0), some (.long y_1), o_2, some (.long y_3), o_4, some (.int (nI a_5)), o_6, some (.ref r_7), some (.ref r_8), some (.int (nI a_9)), some (.int (nI a_10)), some (.int (nI a_11)), some (.int (nI a_12))] (o.toList ++ []) h2 z2 c s) : ip sc call 69 MC MS Q 102 [some (.ref r_0), some (.long y_1), o_2, some (.long y_3), o_4, some (.int (nI a_5)), o_6, some (.ref r_7), some (.ref r_8), some (.int (nI a_9)), some (.int (nI a_10)), some (.int (nI a_11)), some (.int (nI a_12))] [] h z c s := by
  refine jp_load (pc2 := 104) (n := 8) rfl rfl rfl rfl ?_
  refine jp_load (pc2 := 106) (n := 12) rfl rfl rfl rfl ?_
  refine jp_putf (pc2 := 109) rfl rfl e2 (ln_lt l3 (by decide)) ⟨rfl, rfl⟩ ?_
  refine jp_load (pc2 := 110) (n := 0) rfl rfl rfl rfl ?_
  refine jp_getf (pc2 := 113) rfl rfl (hup_ne n6 e5) e7 ?_
  refine jp_load (pc2 := 115) (n := 7) rfl rfl rfl rfl ?_
  refine jp_load (pc2 := 117) (n := 8) rfl rfl rfl rfl ?_
  exact jp_virt0 (pc2 := 120) (As := [(.ref r_7), (.ref r_8)]) (rest := []) rfl rfl rfl (Nat.le_of_ble_eq_true rfl) (hup_ne n10 e9) m11 m12 hc rfl K
theorem c69_120 {r_0 : Nat} {y_1 : Int64} {o_2 : Option Value} {y_3 : Int64} {o_4 : Option Value} {a_5 : Nat} {o_6 : Option Value} {r_7 : Nat} {r_8 : Nat} {a_9 : Nat} {a_10 : Nat} {a_11 : Nat} {a_12 : Nat} {fs1 : List Value} {P : ipQ} (e2 : h r_0 = some (.inr (7, fs1))) (m3 : c ≤ MC) (m4 : s ≤ MS) (hc : call 68 [(.ref r_0), (.int (nI (a_5 + 1)))] h z 0 0 P) (K : ∀ (o : Option Value) (h2 : HP) (z2 : Nat), P o h2 z2 → ip sc call 69 MC MS Q 131 [some (.ref r_0), some (.long y_1), o_2, some (.long y_3), o_4, some (.int (nI a_5)), o_6, some (.ref r_7), some (.ref r_8), some (.int (nI a_9)), some (.int (nI a_10)), some (.int (nI a_11)), some (.int (nI a_12))] (o.toList ++ [(.int (nI 1)), (.int (nI a_9))]) h2 z2 c s) : ip sc call 69 MC MS Q 120 [some (.ref r_0), some (.long y_1), o_2, some (.long y_3), o_4, some (.int (nI a_5)), o_6, some (.ref r_7), some (.ref r_8), some (.int (nI a_9)), some (.int (nI a_10)), some (.int (nI a_11)), some (.int (nI a_12))] [] h z c s := by
  refine jp_load (pc2 := 122) (n := 9) rfl rfl rfl rfl ?_
  refine jp_con (pc2 := 123) (v := (.int (nI 1))) rfl rfl rfl ?_
  refine jp_load (pc2 := 124) (n := 0) rfl rfl rfl rfl ?_
  refine jp_load (pc2 := 126) (n := 5) rfl rfl rfl rfl ?_
  refine jp_con (pc2 := 127) (v := (.int (nI 1))) rfl rfl rfl ?_
  refine jp_bin (pc2 := 128) (v := nI (a_5 + 1)) rfl rfl (congrArg some (nI_add _ _)) ?_
  exact jp_virt0 (pc2 := 131) (As := [(.int (nI (a_5 + 1)))]) (rest := [(.int (nI 1)), (.int (nI a_9))]) rfl rfl rfl (Nat.le_of_ble_eq_true rfl) e2 m3 m4 hc rfl K
theorem c69_131 {r_0 : Nat} {y_1 : Int64} {o_2 : Option Value} {y_3 : Int64} {o_4 : Option Value} {a_5 : Nat} {o_6 : Option Value} {r_7 : Nat} {r_8 : Nat} {o_9 : Option Value} {a_10 : Nat} {a_11 : Nat} {a_12 : Nat} {sa_0 : Nat} {sa_1 : Nat} {sa_2 : Nat}  (K : ip sc call 69 MC MS Q 95 [some (.ref r_0), some (.long y_1), o_2, some (.long y_3), o_4, some (.int (nI a_5)), o_6, some (.ref r_7), some (.ref r_8), some (.int ((nI sa_0) ||| ((nI sa_1) <<< ((nI sa_2) &&& 31)))), some (.int (nI a_10)), some (.int (nI a_11)), some (.int (nI (a_12 + 1)))] [] h z c s) : ip sc call 69 MC MS Q 131 [some (.ref r_0), some (.long y_1), o_2, some (.long y_3), o_4, some (.int (nI a_5)), o_6, some (.ref r_7), some (.ref r_8), o_9, some (.int (nI a_10)), some (.int (nI a_11)), some (.int (nI a_12))] [(.int (nI sa_2)), (.int (nI sa_1)), (.int (nI sa_0))] h z c s := by
  refine jp_bin (pc2 := 132) (v := (nI sa_1) <<< ((nI sa_2) &&& 31)) rfl rfl rfl ?_
  refine jp_bin (pc2 := 133) (v := (nI sa_0) ||| ((nI sa_1) <<< ((nI sa_2) &&& 31))) rfl rfl rfl ?_
  refine jp_store (pc2 := 135) (n := 9) rfl rfl ⟨rfl, rfl⟩ rfl (Nat.le_of_ble_eq_true rfl) ?_
  refine jp_iinc (pc2 := 138) (n := 12) (v := nI (a_12 + 1)) rfl rfl rfl (nI_add _ 1) rfl ?_
  refine ip_goto rfl ?_
  exact K
theorem c69_141 {r_0 : Nat} {y_1 : Int64} {o_2 : Option Value} {y_3 : Int64} {o_4 : Option Value} {a_5 : Nat} {o_6 : Option Value} {r_7 : Nat} {r_8 : Nat} {a_9 : Nat} {a_10 : Nat} {o_11 : Option Value} {o_12 : Option Value}  (K : ip sc call 69 MC MS Q 66 [some (.ref r_0), some (.long y_1), o_2, some (.long y_3), o_4, some (.int (nI a_5)), o_6, some (.ref r_7), some (.ref r_8), some (.int (nI a_9)), some (.int (nI (a_10 + 1))), o_11, o_12] [] h z c s) : ip sc call 69 MC MS Q 141 [some (.ref r_0), some (.long y_1), o_2, some (.long y_3), o_4, some (.int (nI a_5)), o_6, some (.ref r_7), some (.ref r_8), some (.int (nI a_9)), some (.int (nI a_10)), o_11, o_12] [] h z c s := by
  refine jp_iinc (pc2 := 144) (n := 10) (v := nI (a_10 + 1)) rfl rfl rfl (nI_add _ 1) rfl ?_
  refine ip_goto rfl ?_
  exact K
theorem c69_147 {r_0 : Nat} {y_1 : Int64} {o_2 : Option Value} {y_3 : Int64} {o_4 : Option Value} {o_5 : Option Value} {o_6 : Option Value} {o_7 : Option Value} {o_8 : Option Value} {a_9 : Nat} {o_10 : Option Value} {o_11 : Option Value} {o_12 : Option Value} {P : ipQ} (m1 : c ≤ MC) (m2 : s ≤ MS) (hc : call 151 [(.int ((nI a_9) ^^^ ((-1))))] h z 0 0 P) (K : ∀ (o : Option Value) (h2 : HP) (z2 : Nat), P o h2 z2 → ip sc call 69 MC MS Q 154 [some (.ref r_0), some (.long y_1), o_2, some (.long y_3), o_4, o_5, o_6, o_7, o_8, some (.int (nI a_9)), o_10, o_11, o_12] (o.toList ++ []) h2 z2 c s) : ip sc call 69 MC MS Q 147 [some (.ref r_0), some (.long y_1), o_2, some (.long y_3), o_4, o_5, o_6, o_7, o_8, some (.int (nI a_9)), o_10, o_11, o_12] [] h z c s := by
  refine jp_load (pc2 := 149) (n := 9) rfl rfl rfl rfl ?_
  refine jp_con (pc2 := 150) (v := (.int ((-1)))) rfl rfl rfl ?_
  refine jp_bin (pc2 := 151) (v := (nI a_9) ^^^ ((-1))) rfl rfl rfl ?_
  exact jp_stat0 (pc2 := 154) (As := [(.int ((nI a_9) ^^^ ((-1))))]) (rest := []) rfl rfl rfl (Nat.le_of_ble_eq_true rfl) m1 m2 (by decide) hc rfl K
theorem c69_154 {r_0 : Nat} {y_1 : Int64} {o_2 : Option Value} {y_3 : Int64} {o_4 : Option Value} {o_5 : Option Value} {o_6 : Option Value} {o_7 : Option Value} {o_8 : Option Value} {o_9 : Option Value} {o_10 : Option Value} {o_11 : Option Value} {o_12 : Option Value} {sa_0 : Nat} {fs2 : List Value} {q_fs2_2 : Nat} {fs5 : List Value} {P : ipQ} (k1 : ip2 o_9 = false) (e3 : h r_0 = some (.inr (7, fs2))) (e4 : fs2[2]? = some (.ref q_fs2_2)) (e6 : h q_fs2_2 = some (.inr (1, fs5))) (m7 : c ≤ MC) (m8 : s ≤ MS) (hc : call 9 [(.ref q_fs2_2), (.long y_1), (.long y_3), (.int (nI sa_0))] h z 0 0 P) (K : ∀ (o : Option Value) (h2 : HP) (z2 : Nat), P o h2 z2 → ip sc call 69 MC MS Q 167 [some (.ref r_0), some (.long y_1), o_2, some (.long y_3), o_4, o_5, o_6, o_7, o_8, o_9, some (.int (nI sa_0)), o_11, o_12] (o.toList ++ []) h2 z2 c s) : ip sc call 69 MC MS Q 154 [some (.ref r_0), some (.long y_1), o_2, some (.long y_3), o_4, o_5, o_6, o_7, o_8, o_9, o_10, o_11, o_12] [(.int (nI sa_0))] h z c s := by
  refine jp_store (pc2 := 156) (n := 10) rfl rfl ⟨rfl, rfl⟩ k1 (Nat.le_of_ble_eq_true rfl) ?_
  refine jp_load (pc2 := 157) (n := 0) rfl rfl rfl rfl ?_
  refine jp_getf (pc2 := 160) rfl rfl e3 e4 ?_
  refine jp_load (pc2 := 161) (n := 1) rfl rfl rfl rfl ?_
  refine jp_load (pc2 := 162) (n := 3) rfl rfl rfl rfl ?_
  refine jp_load (pc2 := 164) (n := 10) rfl rfl rfl rfl ?_
  exact jp_virt0 (pc2 := 167) (As := [(.long y_1), (.long y_3), (.int (nI sa_0))]) (rest := []) rfl rfl rfl (Nat.le_of_ble_eq_true rfl) e6 m7 m8 hc rfl K
theorem c69_167 {o_0 : Option Value} {o_1 : Option Value} {o_2 : Option Value} {o_3 : Option Value} {o_4 : Option Value} {o_5 : Option Value} {o_6 : Option Value} {o_7 : Option Value} {o_8 : Option Value} {o_9 : Option Value} {a_10 : Nat} {o_11 : Option Value} {o_12 : Option Value} (q1 : Q (some (.int (nI a_10))) h z)  : ip sc call 69 MC MS Q 167 [o_0, o_1, o_2, o_3, o_4, o_5, o_6, o_7, o_8, o_9, some (.int (nI a_10)), o_11, o_12] [] h z c s := by
  refine jp_load (pc2 := 169) (n := 10) rfl rfl rfl rfl ?_
  exact ip_iret (st := []) rfl rfl rfl q1
theorem c70_0 {r_0 : Nat} {y_1 : Int64} {o_2 : Option Value} {y_3 : Int64} {o_4 : Option Value} {r_5 : Nat} {o_6 : Option Value} {fs1 : List Value} {P : ipQ} (e2 : h r_5 = some (.inr (6, fs1))) (m3 : c ≤ MC) (m4 : s ≤ MS) (hc : call 49 [(.ref r_5)] h z 0 0 P) (K : ∀ (o : Option Value) (h2 : HP) (z2 : Nat), P o h2 z2 → ip sc call 70 MC MS Q 5 [some (.ref r_0), some (.long y_1), o_2, some (.long y_3), o_4, some (.ref r_5), o_6] (o.toList ++ []) h2 z2 c s) : ip sc call 70 MC MS Q 0 [some (.ref r_0), some (.long y_1), o_2, some (.long y_3), o_4, some (.ref r_5), o_6] [] h z c s := by
  refine jp_load (pc2 := 2) (n := 5) rfl rfl rfl rfl ?_
  exact jp_virt0 (pc2 := 5) (As := []) (rest := []) rfl rfl rfl (Nat.le_of_ble_eq_true rfl) e2 m3 m4 hc rfl K
theorem c70_5 {r_0 : Nat} {y_1 : Int64} {o_2 : Option Value} {y_3 : Int64} {o_4 : Option Value} {r_5 : Nat} {o_6 : Option Value}  (K : ip sc call 70 MC MS Q 8 [some (.ref r_0), some (.long y_1), o_2, some (.long y_3), o_4, some (.ref r_5), some (.int (nI 0))] [] h z c s) : ip sc call 70 MC MS Q 5 [some (.ref r_0), some (.long y_1), o_2, some (.long y_3), o_4, some (.ref r_5), o_6] [] h z c s := by
  refine jp_con (pc2 := 6) (v := (.int (nI 0))) rfl rfl rfl ?_
  refine jp_store (pc2 := 8) (n := 6) rfl rfl ⟨rfl, rfl⟩ rfl (Nat.le_of_ble_eq_true rfl) ?_
  exact K
theorem c70_8 {r_0 : Nat} {y_1 : Int64} {o_2 : Option Value} {y_3 : Int64} {o_4 : Option Value} {r_5 : Nat} {a_6 : Nat} {fs1 : List Value} {q_fs1_8 : Nat} {n4 : Nat} {f5 : Nat → Int32} (e2 : h r_0 = some (.inr (7, fs1))) (e3 : fs1[8]? = some (.ref q_fs1_8)) (e6 : h q_fs1_8 = some (.inl (0, n4, .inl f5))) (c7 : a_6 < 2147483648) (c8 : n4 < 2147483648) (K1 : n4 ≤ a_6 → ip sc call 70 MC MS Q 32 [some (.ref r_0), some (.long y_1), o_2, some (.long y_3), o_4, some (.ref r_5), some (.int (nI a_6))] [] h z c s) (K2 : ¬ (n4 ≤ a_6) → ip sc call 70 MC MS Q 18 [some (.ref r_0), some (.long y_1), o_2, some (.long y_3), o_4, some (.ref r_5), some (.int (nI a_6))] [] h z c s) : ip sc call 70 MC MS Q 8 [some (.ref r_0), some (.long y_1), o_2, some (.long y_3), o_4, some (.ref r_5), some (.int (nI a_6))] [] h z c s := by
  refine jp_load (pc2 := 10) (n := 6) rfl rfl rfl rfl ?_
  refine jp_load (pc2 := 11) (n := 0) rfl rfl rfl rfl ?_
  refine jp_getf (pc2 := 14) rfl rfl e2 e3 ?_
  refine jp_alen (pc2 := 15) rfl rfl e6 (by decide) ?_
  show ip _ _ _ _ _ _ _ _ (.int (nI n4) :: _) _ _ _ _
  exact jp_icmp (pc2 := 18) rfl rfl (fun q => K1 ((nI_leI c8 c7).mp q)) (fun q => K2 (fun r => q ((nI_leI c8 c7).mpr r)))
theorem c70_18 {r_0 : Nat} {y_1 : Int64} {o_2 : Option Value} {y_3 : Int64} {o_4 : Option Value} {r_5 : Nat} {a_6 : Nat} {fs1 : List Value} {q_fs1_8 : Nat} {n4 : Nat} {f5 : Nat → Int32} {g9 : Nat → Int32} (e2 : h r_0 = some (.inr (7, fs1))) (e3 : fs1[8]? = some (.ref q_fs1_8)) (e6 : h q_fs1_8 = some (.inl (0, n4, .inl f5))) (b7 : a_6 < n4) (c8 : n4 < 2147483648) (d10 : upd f5 a_6 ((-1)) = g9) (K : ip sc call 70 MC MS Q 8 [some (.ref r_0), some (.long y_1), o_2, some (.long y_3), o_4, some (.ref r_5), some (.int (nI (a_6 + 1)))] [] (hup h q_fs1_8 (.inl (0, n4, .inl g9))) z c s) : ip sc call 70 MC MS Q 18 [some (.ref r_0), some (.long y_1), o_2, some (.long y_3), o_4, some (.ref r_5), some (.int (nI a_6))] [] h z c s := by
  refine jp_load (pc2 := 19) (n := 0) rfl rfl rfl rfl ?_
  refine jp_getf (pc2 := 22) rfl rfl e2 e3 ?_
  refine jp_load (pc2 := 24) (n := 6) rfl rfl rfl rfl ?_
  refine jp_con (pc2 := 25) (v := (.int ((-1)))) rfl rfl rfl ?_
  refine jp_iast (pc2 := 26) rfl rfl e6 (vp_in_nI b7 c8) ?_
  rw [(nI_clamp (Nat.lt_trans b7 c8))]
  rw [d10]
  refine jp_iinc (pc2 := 29) (n := 6) (v := nI (a_6 + 1)) rfl rfl rfl (nI_add _ 1) rfl ?_
  refine ip_goto rfl ?_
  exact K
theorem c70_32 {r_0 : Nat} {y_1 : Int64} {o_2 : Option Value} {y_3 : Int64} {o_4 : Option Value} {r_5 : Nat} {o_6 : Option Value} {fs1 : List Value} {P : ipQ} (e2 : h r_0 = some (.inr (7, fs1))) (m3 : c ≤ MC) (m4 : s ≤ MS) (hc : call 71 [(.ref r_0), (.long y_1), (.ref r_5)] h z 0 0 P) (K : ∀ (o : Option Value) (h2 : HP) (z2 : Nat), P o h2 z2 → ip sc call 70 MC MS Q 39 [some (.ref r_0), some (.long y_1), o_2, some (.long y_3), o_4, some (.ref r_5), o_6] (o.toList ++ []) h2 z2 c s) : ip sc call 70 MC MS Q 32 [some (.ref r_0), some (.long y_1), o_2, some (.long y_3), o_4, some (.ref r_5), o_6] [] h z c s := by
  refine jp_load (pc2 := 33) (n := 0) rfl rfl rfl rfl ?_
  refine jp_load (pc2 := 34) (n := 1) rfl rfl rfl rfl ?_
  refine jp_load (pc2 := 36) (n := 5) rfl rfl rfl rfl ?_
  exact jp_virt0 (pc2 := 39) (As := [(.long y_1), (.ref r_5)]) (rest := []) rfl rfl rfl (Nat.le_of_ble_eq_true rfl) e2 m3 m4 hc rfl K
theorem c70_39 {r_0 : Nat} {o_1 : Option Value} {o_2 : Option Value} {y_3 : Int64} {o_4 : Option Value} {r_5 : Nat} {o_6 : Option Value} {fs1 : List Value} {P : ipQ} (e2 : h r_0 = some (.inr (7, fs1))) (m3 : c ≤ MC) (m4 : s ≤ MS) (hc : call 71 [(.ref r_0), (.long y_3), (.ref r_5)] h z 0 0 P) (K : ∀ (o : Option Value) (h2 : HP) (z2 : Nat), P o h2 z2 → ip sc call 70 MC MS Q 46 [some (.ref r_0), o_1, o_2, some (.long y_3), o_4, some (.ref r_5), o_6] (o.toList ++ []) h2 z2 c s) : ip sc call 70 MC MS Q 39 [some (.ref r_0), o_1, o_2, some (.long y_3), o_4, some (.ref r_5), o_6] [] h z c s := by
  refine jp_load (pc2 := 40) (n := 0) rfl rfl rfl rfl ?_
  refine jp_load (pc2 := 41) (n := 3) rfl rfl rfl rfl ?_
  refine jp_load (pc2 := 43) (n := 5) rfl rfl rfl rfl ?_
  exact jp_virt0 (pc2 := 46) (As := [(.long y_3), (.ref r_5)]) (rest := []) rfl rfl rfl (Nat.le_of_ble_eq_true rfl) e2 m3 m4 hc rfl K
theorem c70_46 {o_0 : Option Value} {o_1 : Option Value} {o_2 : Option Value} {o_3 : Option Value} {o_4 : Option Value} {o_5 : Option Value} {o_6 : Option Value} (q1 : Q none h z)  : ip sc call 70 MC MS Q 46 [o_0, o_1, o_2, o_3, o_4, o_5, o_6] [] h z c s := by
  exact ip_vret (st := []) rfl rfl q1
theorem c71_0 {r_0 : Nat} {y_1 : Int64} {o_2 : Option Value} {r_3 : Nat} {o_4 : Option Value} {o_5 : Option Value} {o_6 : Option Value} {o_7 : Option Value} {o_8 : Option Value} (k1 : ip2 none = false) (K : ip sc call 71 MC MS Q 6 [some (.ref r_0), some (.long y_1), o_2, some (.ref r_3), some (.long y_1), none, some (.int (nI 0)), o_7, o_8] [] h z c s) : ip sc call 71 MC MS Q 0 [some (.ref r_0), some (.long y_1), o_2, some (.ref r_3), o_4, o_5, o_6, o_7, o_8] [] h z c s := by
  refine jp_load (pc2 := 1) (n := 1) rfl rfl rfl rfl ?_
  refine jp_store2 (pc2 := 3) (n := 4) rfl rfl ⟨rfl, rfl⟩ rfl (Nat.le_of_ble_eq_true rfl) ?_
  refine jp_con (pc2 := 4) (v := (.int (nI 0))) rfl rfl rfl ?_
  refine jp_store (pc2 := 6) (n := 6) rfl rfl ⟨rfl, rfl⟩ k1 (Nat.le_of_ble_eq_true rfl) ?_
  exact K
theorem c71_6 {r_0 : Nat} {o_1 : Option Value} {o_2 : Option Value} {r_3 : Nat} {y_4 : Int64} {o_5 : Option Value} {a_6 : Nat} {o_7 : Option Value} {o_8 : Option Value} (c1 : a_6 < 2147483648) (K1 : 10 ≤ a_6 → ip sc call 71 MC MS Q 80 [some (.ref r_0), o_1, o_2, some (.ref r_3), some (.long y_4), o_5, some (.int (nI a_6)), o_7, o_8] [] h z c s) (K2 : ¬ (10 ≤ a_6) → ip sc call 71 MC MS Q 13 [some (.ref r_0), o_1, o_2, some (.ref r_3), some (.long y_4), o_5, some (.int (nI a_6)), o_7, o_8] [] h z c s) : ip sc call 71 MC MS Q 6 [some (.ref r_0), o_1, o_2, some (.ref r_3), some (.long y_4), o_5, some (.int (nI a_6)), o_7, o_8] [] h z c s := by
  refine jp_load (pc2 := 8) (n := 6) rfl rfl rfl rfl ?_
  refine jp_con (pc2 := 10) (v := (.int (nI 10))) rfl rfl rfl ?_
  exact jp_icmp (pc2 := 13) rfl rfl (fun q => K1 ((nI_leI (by decide) c1).mp q)) (fun q => K2 (fun r => q ((nI_leI (by decide) c1).mpr r)))
theorem c71_13 {r_0 : Nat} {o_1 : Option Value} {o_2 : Option Value} {r_3 : Nat} {y_4 : Int64} {o_5 : Option Value} {a_6 : Nat} {o_7 : Option Value} {o_8 : Option Value}  (K1 : (lg_cmp y_4 0) = 0 → ip sc call 71 MC MS Q 80 [some (.ref r_0), o_1, o_2, some (.ref r_3), some (.long y_4), o_5, some (.int (nI a_6)), o_7, o_8] [] h z c s) (K2 : ¬ ((lg_cmp y_4 0) = 0) → ip sc call 71 MC MS Q 20 [some (.ref r_0), o_1, o_2, some (.ref r_3), some (.long y_4), o_5, some (.int (nI a_6)), o_7, o_8] [] h z c s) : ip sc call 71 MC MS Q 13 [some (.ref r_0), o_1, o_2, some (.ref r_3), some (.long y_4), o_5, some (.int (nI a_6)), o_7, o_8] [] h z c s := by
  refine jp_load (pc2 := 15) (n := 4) rfl rfl rfl rfl ?_
  refine jp_con (pc2 := 16) (v := .long 0) rfl rfl rfl ?_
  refine jp_lcmp (pc2 := 17) rfl rfl ?_
  exact jp_if0 (pc2 := 20) rfl rfl K1 K2
theorem c71_20 {r_0 : Nat} {o_1 : Option Value} {o_2 : Option Value} {r_3 : Nat} {y_4 : Int64} {o_5 : Option Value} {a_6 : Nat} {o_7 : Option Value} {o_8 : Option Value} {fs1 : List Value} {P : ipQ} (e2 : h r_0 = some (.inr (7, fs1))) (m3 : c ≤ MC) (m4 : s ≤ MS) (hc : call 72 [(.ref r_0), (.int (((y_4 >>> ((nI 2).toInt64 &&& 63)).toInt32) &&& (nI 15))), (.ref r_3)] h z 0 0 P) (K : ∀ (o : Option Value) (h2 : HP) (z2 : Nat), P o h2 z2 → ip sc call 71 MC MS Q 45 [some (.ref r_0), o_1, o_2, some (.ref r_3), some (.long y_4), o_5, some (.int (nI a_6)), some (.int (((y_4 >>> ((nI 2).toInt64 &&& 63)).toInt32) &&& (nI 15))), some (.int (y_4.toInt32 &&& (nI 3)))] (o.toList ++ [(.ref r_3)]) h2 z2 c s) : ip sc call 71 MC MS Q 20 [some (.ref r_0), o_1, o_2, some (.ref r_3), some (.long y_4), o_5, some (.int (nI a_6)), o_7, o_8] [] h z c s := by
  refine jp_load (pc2 := 22) (n := 4) rfl rfl rfl rfl ?_
  refine jp_con (pc2 := 23) (v := (.int (nI 2))) rfl rfl rfl ?_
  refine jp_lsh (pc2 := 24) (v := y_4 >>> ((nI 2).toInt64 &&& 63)) rfl rfl rfl ?_
  refine jp_cv (pc2 := 25) (v := (.int ((y_4 >>> ((nI 2).toInt64 &&& 63)).toInt32))) rfl rfl rfl ?_
  refine jp_con (pc2 := 27) (v := (.int (nI 15))) rfl rfl rfl ?_
  refine jp_bin (pc2 := 28) (v := ((y_4 >>> ((nI 2).toInt64 &&& 63)).toInt32) &&& (nI 15)) rfl rfl rfl ?_
  refine jp_store (pc2 := 30) (n := 7) rfl rfl ⟨rfl, rfl⟩ rfl (Nat.le_of_ble_eq_true rfl) ?_
  refine jp_load (pc2 := 32) (n := 4) rfl rfl rfl rfl ?_
  refine jp_cv (pc2 := 33) (v := (.int y_4.toInt32)) rfl rfl rfl ?_
  refine jp_con (pc2 := 34) (v := (.int (nI 3))) rfl rfl rfl ?_
  refine jp_bin (pc2 := 35) (v := y_4.toInt32 &&& (nI 3)) rfl rfl rfl ?_
  refine jp_store (pc2 := 37) (n := 8) rfl rfl ⟨rfl, rfl⟩ rfl (Nat.le_of_ble_eq_true rfl) ?_
  refine jp_load (pc2 := 38) (n := 3) rfl rfl rfl rfl ?_
  refine jp_load (pc2 := 39) (n := 0) rfl rfl rfl rfl ?_
  refine jp_load (pc2 := 41) (n := 7) rfl rfl rfl rfl ?_
  refine jp_load (pc2 := 42) (n := 3) rfl rfl rfl rfl ?_
  exact jp_virt0 (pc2 := 45) (As := [(.int (((y_4 >>> ((nI 2).toInt64 &&& 63)).toInt32) &&& (nI 15))), (.ref r_3)]) (rest := [(.ref r_3)]) rfl rfl rfl (Nat.le_of_ble_eq_true rfl) e2 m3 m4 hc rfl K
theorem c71_45 {r_0 : Nat} {o_1 : Option Value} {o_2 : Option Value} {r_3 : Nat} {y_4 : Int64} {o_5 : Option Value} {a_6 : Nat} {o_7 : Option Value} {a_8 : Nat} {sr_0 : Nat} {sa_1 : Nat} {fs1 : List Value} {P : ipQ} (e2 : h sr_0 = some (.inr (6, fs1))) (m3 : c ≤ MC) (m4 : s ≤ MS) (hc : call 61 [(.ref sr_0), (.int (nI sa_1))] h z 0 0 P) (K : ∀ (o : Option Value) (h2 : HP) (z2 : Nat), P o h2 z2 → ip sc call 71 MC MS Q 48 [some (.ref r_0), o_1, o_2, some (.ref r_3), some (.long y_4), o_5, some (.int (nI a_6)), o_7, some (.int (nI a_8))] (o.toList ++ []) h2 z2 c s) : ip sc call 71 MC MS Q 45 [some (.ref r_0), o_1, o_2, some (.ref r_3), some (.long y_4), o_5, some (.int (nI a_6)), o_7, some (.int (nI a_8))] [(.int (nI sa_1)), (.ref sr_0)] h z c s := by
  exact jp_virt0 (pc2 := 48) (As := [(.int (nI sa_1))]) (rest := []) rfl rfl rfl (Nat.le_of_ble_eq_true rfl) e2 m3 m4 hc rfl K
theorem c71_48 {r_0 : Nat} {o_1 : Option Value} {o_2 : Option Value} {r_3 : Nat} {y_4 : Int64} {o_5 : Option Value} {a_6 : Nat} {o_7 : Option Value} {a_8 : Nat} (c1 : a_8 < 2147483648) (K1 : a_8 = 0 → ip sc call 71 MC MS Q 57 [some (.ref r_0), o_1, o_2, some (.ref r_3), some (.long y_4), o_5, some (.int (nI a_6)), o_7, some (.int (nI a_8))] [] h z c s) (K2 : ¬ (a_8 = 0) → ip sc call 71 MC MS Q 53 [some (.ref r_0), o_1, o_2, some (.ref r_3), some (.long y_4), o_5, some (.int (nI a_6)), o_7, some (.int (nI a_8))] [] h z c s) : ip sc call 71 MC MS Q 48 [some (.ref r_0), o_1, o_2, some (.ref r_3), some (.long y_4), o_5, some (.int (nI a_6)), o_7, some (.int (nI a_8))] [] h z c s := by
  refine jp_load (pc2 := 50) (n := 8) rfl rfl rfl rfl ?_
  exact jp_if0 (pc2 := 53) rfl rfl (fun q => K1 ((nI_eq c1 (by decide)).mp q)) (fun q => K2 (fun r => q ((nI_eq c1 (by decide)).mpr r)))
theorem c71_53 {r_0 : Nat} {o_1 : Option Value} {o_2 : Option Value} {r_3 : Nat} {y_4 : Int64} {o_5 : Option Value} {a_6 : Nat} {o_7 : Option Value} {a_8 : Nat} {fs1 : List Value} {P : ipQ} (e2 : h r_3 = some (.inr (6, fs1))) (m3 : c ≤ MC) (m4 : s ≤ MS) (hc : call 62 [(.ref r_3)] h z 0 0 P) (K : ∀ (o : Option Value) (h2 : HP) (z2 : Nat), P o h2 z2 → ip sc call 71 MC MS Q 57 [some (.ref r_0), o_1, o_2, some (.ref r_3), some (.long y_4), o_5, some (.int (nI a_6)), o_7, some (.int (nI a_8))] (o.toList ++ []) h2 z2 c s) : ip sc call 71 MC MS Q 53 [some (.ref r_0), o_1, o_2, some (.ref r_3), some (.long y_4), o_5, some (.int (nI a_6)), o_7, some (.int (nI a_8))] [] h z c s := by
  refine jp_load (pc2 := 54) (n := 3) rfl rfl rfl rfl ?_
  exact jp_virt0 (pc2 := 57) (As := []) (rest := []) rfl rfl rfl (Nat.le_of_ble_eq_true rfl) e2 m3 m4 hc rfl K
theorem c71_57 {r_0 : Nat} {o_1 : Option Value} {o_2 : Option Value} {r_3 : Nat} {y_4 : Int64} {o_5 : Option Value} {a_6 : Nat} {o_7 : Option Value} {a_8 : Nat} (c1 : a_8 < 2147483648) (K1 : ¬ a_8 = 2 → ip sc call 71 MC MS Q 67 [some (.ref r_0), o_1, o_2, some (.ref r_3), some (.long y_4), o_5, some (.int (nI a_6)), o_7, some (.int (nI a_8))] [] h z c s) (K2 : ¬ (¬ a_8 = 2) → ip sc call 71 MC MS Q 63 [some (.ref r_0), o_1, o_2, some (.ref r_3), some (.long y_4), o_5, some (.int (nI a_6)), o_7, some (.int (nI a_8))] [] h z c s) : ip sc call 71 MC MS Q 57 [some (.ref r_0), o_1, o_2, some (.ref r_3), some (.long y_4), o_5, some (.int (nI a_6)), o_7, some (.int (nI a_8))] [] h z c s := by
  refine jp_load (pc2 := 59) (n := 8) rfl rfl rfl rfl ?_
  refine jp_con (pc2 := 60) (v := (.int (nI 2))) rfl rfl rfl ?_
  exact jp_icmp (pc2 := 63) rfl rfl (fun q => K1 ((not_congr (nI_eq c1 (by decide))).mp q)) (fun q => K2 (fun r => q ((not_congr (nI_eq c1 (by decide))).mpr r)))
theorem c71_63 {r_0 : Nat} {o_1 : Option Value} {o_2 : Option Value} {r_3 : Nat} {y_4 : Int64} {o_5 : Option Value} {a_6 : Nat} {o_7 : Option Value} {o_8 : Option Value} {fs1 : List Value} {P : ipQ} (e2 : h r_3 = some (.inr (6, fs1))) (m3 : c ≤ MC) (m4 : s ≤ MS) (hc : call 63 [(.ref r_3)] h z 0 0 P) (K : ∀ (o : Option Value) (h2 : HP) (z2 : Nat), P o h2 z2 → ip sc call 71 MC MS Q 67 [some (.ref r_0), o_1, o_2, some (.ref r_3), some (.long y_4), o_5, some (.int (nI a_6)), o_7, o_8] (o.toList ++ []) h2 z2 c s) : ip sc call 71 MC MS Q 63 [some (.ref r_0), o_1, o_2, some (.ref r_3), some (.long y_4), o_5, some (.int (nI a_6)), o_7, o_8] [] h z c s := by
  refine jp_load (pc2 := 64) (n := 3) rfl rfl rfl rfl ?_
  exact jp_virt0 (pc2 := 67) (As := []) (rest := []) rfl rfl rfl (Nat.le_of_ble_eq_true rfl) e2 m3 m4 hc rfl K
theorem c71_67 {r_0 : Nat} {o_1 : Option Value} {o_2 : Option Value} {r_3 : Nat} {y_4 : Int64} {o_5 : Option Value} {a_6 : Nat} {o_7 : Option Value} {o_8 : Option Value} (k1 : ip2 none = false) (K : ip sc call 71 MC MS Q 6 [some (.ref r_0), o_1, o_2, some (.ref r_3), some (.long ((y_4.toUInt64 >>> ((nI 6).toInt64.toUInt64 &&& Int64.toUInt64 63)).toInt64)), none, some (.int (nI (a_6 + 1))), o_7, o_8] [] h z c s) : ip sc call 71 MC MS Q 67 [some (.ref r_0), o_1, o_2, some (.ref r_3), some (.long y_4), o_5, some (.int (nI a_6)), o_7, o_8] [] h z c s := by
  refine jp_load (pc2 := 69) (n := 4) rfl rfl rfl rfl ?_
  refine jp_con (pc2 := 71) (v := (.int (nI 6))) rfl rfl rfl ?_
  refine jp_lsh (pc2 := 72) (v := (y_4.toUInt64 >>> ((nI 6).toInt64.toUInt64 &&& Int64.toUInt64 63)).toInt64) rfl rfl rfl ?_
  refine jp_store2 (pc2 := 74) (n := 4) rfl rfl ⟨rfl, rfl⟩ rfl (Nat.le_of_ble_eq_true rfl) ?_
  refine jp_iinc (pc2 := 77) (n := 6) (v := nI (a_6 + 1)) rfl rfl rfl (nI_add _ 1) k1 ?_
  refine ip_goto rfl ?_
  exact K
theorem c71_80 {o_0 : Option Value} {o_1 : Option Value} {o_2 : Option Value} {o_3 : Option Value} {o_4 : Option Value} {o_5 : Option Value} {o_6 : Option Value} {o_7 : Option Value} {o_8 : Option Value} (q1 : Q none h z)  : ip sc call 71 MC MS Q 80 [o_0, o_1, o_2, o_3, o_4, o_5, o_6, o_7, o_8] [] h z c s := by
  exact ip_vret (st := []) rfl rfl q1
theorem c72_0 {r_0 : Nat} {a_1 : Nat} {r_2 : Nat} {o_3 : Option Value} (c1 : a_1 < 2147483648) (K1 : a_1 < 4 → ip sc call 72 MC MS Q 22 [some (.ref r_0), some (.int (nI a_1)), some (.ref r_2), o_3] [] h z c s) (K2 : ¬ (a_1 < 4) → ip sc call 72 MC MS Q 5 [some (.ref r_0), some (.int (nI a_1)), some (.ref r_2), o_3] [] h z c s) : ip sc call 72 MC MS Q 0 [some (.ref r_0), some (.int (nI a_1)), some (.ref r_2), o_3] [] h z c s := by
  refine jp_load (pc2 := 1) (n := 1) rfl rfl rfl rfl ?_
  refine jp_con (pc2 := 2) (v := (.int (nI 4))) rfl rfl rfl ?_
  exact jp_icmp (pc2 := 5) rfl rfl (fun q => K1 ((nI_ltI c1 (by decide)).mp q)) (fun q => K2 (fun r => q ((nI_ltI c1 (by decide)).mpr r)))
theorem c72_5 {r_0 : Nat} {a_1 : Nat} {r_2 : Nat} {o_3 : Option Value} {fs1 : List Value} {q_fs1_8 : Nat} {n4 : Nat} {f5 : Nat → Int32} {v9 : Nat} (e2 : h r_0 = some (.inr (7, fs1))) (e3 : fs1[8]? = some (.ref q_fs1_8)) (e6 : h q_fs1_8 = some (.inl (0, n4, .inl f5))) (b7 : a_1 < n4) (c8 : n4 < 2147483648) (e10 : f5 a_1 = nI v9) (K1 : (nI v9) = ((-1)) → ip sc call 72 MC MS Q 22 [some (.ref r_0), some (.int (nI a_1)), some (.ref r_2), o_3] [] h z c s) (K2 : ¬ ((nI v9) = ((-1))) → ip sc call 72 MC MS Q 15 [some (.ref r_0), some (.int (nI a_1)), some (.ref r_2), o_3] [] h z c s) : ip sc call 72 MC MS Q 5 [some (.ref r_0), some (.int (nI a_1)), some (.ref r_2), o_3] [] h z c s := by
  refine jp_load (pc2 := 6) (n := 0) rfl rfl rfl rfl ?_
  refine jp_getf (pc2 := 9) rfl rfl e2 e3 ?_
  refine jp_load (pc2 := 10) (n := 1) rfl rfl rfl rfl ?_
  refine jp_iald (pc2 := 11) rfl rfl e6 (vp_in_nI b7 c8) ?_
  rw [(nI_clamp (Nat.lt_trans b7 c8))]
  rw [e10]
  refine jp_con (pc2 := 12) (v := (.int ((-1)))) rfl rfl rfl ?_
  exact jp_icmp (pc2 := 15) rfl rfl K1 K2
theorem c72_15 {r_0 : Nat} {a_1 : Nat} {o_2 : Option Value} {o_3 : Option Value} {fs1 : List Value} {q_fs1_8 : Nat} {n4 : Nat} {f5 : Nat → Int32} {v9 : Nat} (e2 : h r_0 = some (.inr (7, fs1))) (e3 : fs1[8]? = some (.ref q_fs1_8)) (e6 : h q_fs1_8 = some (.inl (0, n4, .inl f5))) (b7 : a_1 < n4) (c8 : n4 < 2147483648) (e10 : f5 a_1 = nI v9) (q11 : Q (some (.int (nI v9))) h z)  : ip sc call 72 MC MS Q 15 [some (.ref r_0), some (.int (nI a_1)), o_2, o_3] [] h z c s := by
  refine jp_load (pc2 := 16) (n := 0) rfl rfl rfl rfl ?_
  refine jp_getf (pc2 := 19) rfl rfl e2 e3 ?_
  refine jp_load (pc2 := 20) (n := 1) rfl rfl rfl rfl ?_
  refine jp_iald (pc2 := 21) rfl rfl e6 (vp_in_nI b7 c8) ?_
  rw [(nI_clamp (Nat.lt_trans b7 c8))]
  rw [e10]
  exact ip_iret (st := []) rfl rfl rfl q11
theorem c72_22 {r_0 : Nat} {a_1 : Nat} {r_2 : Nat} {o_3 : Option Value} {fs1 : List Value} {v_fs1_8 : Nat} {fs4 : List Value} {q_fs4_8 : Nat} {n7 : Nat} {f8 : Nat → Int32} {g12 : Nat → Int32} (e2 : h r_2 = some (.inr (6, fs1))) (e3 : fs1[8]? = some (.int (nI v_fs1_8))) (e5 : h r_0 = some (.inr (7, fs4))) (e6 : fs4[8]? = some (.ref q_fs4_8)) (e9 : h q_fs4_8 = some (.inl (0, n7, .inl f8))) (b10 : a_1 < n7) (c11 : n7 < 2147483648) (d13 : upd f8 a_1 (nI v_fs1_8) = g12) (c14 : a_1 < 2147483648) (K1 : ¬ a_1 = 1 → ip sc call 72 MC MS Q 44 [some (.ref r_0), some (.int (nI a_1)), some (.ref r_2), some (.int (nI v_fs1_8))] [(.ref r_2)] (hup h q_fs4_8 (.inl (0, n7, .inl g12))) z c s) (K2 : ¬ (¬ a_1 = 1) → ip sc call 72 MC MS Q 40 [some (.ref r_0), some (.int (nI a_1)), some (.ref r_2), some (.int (nI v_fs1_8))] [(.ref r_2)] (hup h q_fs4_8 (.inl (0, n7, .inl g12))) z c s) : ip sc call 72 MC MS Q 22 [some (.ref r_0), some (.int (nI a_1)), some (.ref r_2), o_3] [] h z c s := by
  refine jp_load (pc2 := 23) (n := 2) rfl rfl rfl rfl ?_
  refine jp_getf (pc2 := 26) rfl rfl e2 e3 ?_
  refine jp_store (pc2 := 27) (n := 3) rfl rfl ⟨rfl, rfl⟩ rfl (Nat.le_of_ble_eq_true rfl) ?_
  refine jp_load (pc2 := 28) (n := 0) rfl rfl rfl rfl ?_
  refine jp_getf (pc2 := 31) rfl rfl e5 e6 ?_
  refine jp_load (pc2 := 32) (n := 1) rfl rfl rfl rfl ?_
  refine jp_load (pc2 := 33) (n := 3) rfl rfl rfl rfl ?_
  refine jp_iast (pc2 := 34) rfl rfl e9 (vp_in_nI b10 c11) ?_
  rw [(nI_clamp (Nat.lt_trans b10 c11))]
  rw [d13]
  refine jp_load (pc2 := 35) (n := 2) rfl rfl rfl rfl ?_
  refine jp_load (pc2 := 36) (n := 1) rfl rfl rfl rfl ?_
  refine jp_con (pc2 := 37) (v := (.int (nI 1))) rfl rfl rfl ?_
  exact jp_icmp (pc2 := 40) rfl rfl (fun q => K1 ((not_congr (nI_eq c14 (by decide))).mp q)) (fun q => K2 (fun r => q ((not_congr (nI_eq c14 (by decide))).mpr r)))
theorem c72_40 {o_0 : Option Value} {o_1 : Option Value} {o_2 : Option Value} {a_3 : Nat} {sr_0 : Nat}  (K : ip sc call 72 MC MS Q 54 [o_0, o_1, o_2, some (.int (nI a_3))] [(.int (nI 3)), (.ref sr_0)] h z c s) : ip sc call 72 MC MS Q 40 [o_0, o_1, o_2, some (.int (nI a_3))] [(.ref sr_0)] h z c s := by
  refine jp_con (pc2 := 41) (v := (.int (nI 3))) rfl rfl rfl ?_
  refine ip_goto rfl ?_
  exact K
theorem c72_44 {o_0 : Option Value} {a_1 : Nat} {o_2 : Option Value} {a_3 : Nat} {sr_0 : Nat} (c1 : a_1 < 2147483648) (K1 : ¬ a_1 = 2 → ip sc call 72 MC MS Q 53 [o_0, some (.int (nI a_1)), o_2, some (.int (nI a_3))] [(.ref sr_0)] h z c s) (K2 : ¬ (¬ a_1 = 2) → ip sc call 72 MC MS Q 49 [o_0, some (.int (nI a_1)), o_2, some (.int (nI a_3))] [(.ref sr_0)] h z c s) : ip sc call 72 MC MS Q 44 [o_0, some (.int (nI a_1)), o_2, some (.int (nI a_3))] [(.ref sr_0)] h z c s := by
  refine jp_load (pc2 := 45) (n := 1) rfl rfl rfl rfl ?_
  refine jp_con (pc2 := 46) (v := (.int (nI 2))) rfl rfl rfl ?_
  exact jp_icmp (pc2 := 49) rfl rfl (fun q => K1 ((not_congr (nI_eq c1 (by decide))).mp q)) (fun q => K2 (fun r => q ((not_congr (nI_eq c1 (by decide))).mpr r)))
theorem c72_49 {o_0 : Option Value} {o_1 : Option Value} {o_2 : Option Value} {a_3 : Nat} {sr_0 : Nat}  (K : ip sc call 72 MC MS Q 54 [o_0, o_1, o_2, some (.int (nI a_3))] [(.int (nI 2)), (.ref sr_0)] h z c s) : ip sc call 72 MC MS Q 49 [o_0, o_1, o_2, some (.int (nI a_3))] [(.ref sr_0)] h z c s := by
  refine jp_con (pc2 := 50) (v := (.int (nI 2))) rfl rfl rfl ?_
  refine ip_goto rfl ?_
  exact K
theorem c72_53 {o_0 : Option Value} {o_1 : Option Value} {o_2 : Option Value} {a_3 : Nat} {sr_0 : Nat}  (K : ip sc call 72 MC MS Q 54 [o_0, o_1, o_2, some (.int (nI a_3))] [(.int (nI 1)), (.ref sr_0)] h z c s) : ip sc call 72 MC MS Q 53 [o_0, o_1, o_2, some (.int (nI a_3))] [(.ref sr_0)] h z c s := by
  refine jp_con (pc2 := 54) (v := (.int (nI 1))) rfl rfl rfl ?_
  exact K
theorem c72_54 {o_0 : Option Value} {o_1 : Option Value} {o_2 : Option Value} {a_3 : Nat} {sr_0 : Nat} {sa_1 : Nat} {fs1 : List Value} {P : ipQ} (e2 : h sr_0 = some (.inr (6, fs1))) (m3 : c ≤ MC) (m4 : s ≤ MS) (hc : call 50 [(.ref sr_0), (.int (nI sa_1))] h z 0 0 P) (K : ∀ (o : Option Value) (h2 : HP) (z2 : Nat), P o h2 z2 → ip sc call 72 MC MS Q 57 [o_0, o_1, o_2, some (.int (nI a_3))] (o.toList ++ []) h2 z2 c s) : ip sc call 72 MC MS Q 54 [o_0, o_1, o_2, some (.int (nI a_3))] [(.int (nI sa_1)), (.ref sr_0)] h z c s := by
  exact jp_virt0 (pc2 := 57) (As := [(.int (nI sa_1))]) (rest := []) rfl rfl rfl (Nat.le_of_ble_eq_true rfl) e2 m3 m4 hc rfl K
theorem c72_57 {o_0 : Option Value} {o_1 : Option Value} {o_2 : Option Value} {a_3 : Nat} (q1 : Q (some (.int (nI a_3))) h z)  : ip sc call 72 MC MS Q 57 [o_0, o_1, o_2, some (.int (nI a_3))] [] h z c s := by
  refine jp_load (pc2 := 58) (n := 3) rfl rfl rfl rfl ?_
  exact ip_iret (st := []) rfl rfl rfl q1
end BLK
