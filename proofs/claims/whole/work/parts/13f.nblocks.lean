/-! straight stretches of bytecode, printed by wip/whole/gen_blk.py -/
section BLK
variable {sc : ipSc} {call : ipCall} {MC MS : Nat} {Q : ipQ} {h : HP} {z c s : Nat}
set_option maxRecDepth 100000 in
theorem c152_15 {r_0 : Nat} {r_1 : Nat} {o_2 : Option Value} {o_3 : Option Value} {sr_0 : Nat}  (K : ip sc call 152 MC MS Q 18 [some (.ref r_0), some (.ref r_1), some (.ref sr_0), some (.int (nI 0))] [] h z c s) : ip sc call 152 MC MS Q 15 [some (.ref r_0), some (.ref r_1), o_2, o_3] [(.ref sr_0)] h z c s := by
  refine jp_store (pc2 := 16) (n := 2) rfl rfl ⟨rfl, rfl⟩ rfl (Nat.le_of_ble_eq_true rfl) ?_
  refine jp_con (pc2 := 17) (v := (.int (nI 0))) rfl rfl rfl ?_
  refine jp_store (pc2 := 18) (n := 3) rfl rfl ⟨rfl, rfl⟩ rfl (Nat.le_of_ble_eq_true rfl) ?_
  exact K
-- c152_18 by hand: script length: by hand
set_option maxRecDepth 100000 in
theorem c152_27 {r_0 : Nat} {r_1 : Nat} {r_2 : Nat} {a_3 : Nat} {n1 : Nat} {f2 : Nat → Int32} {v6 : Nat} {tgt : Nat} (e3 : h r_0 = some (.inl (0, n1, .inl f2))) (b4 : a_3 < n1) (c5 : n1 < 2147483648) (e7 : f2 a_3 = nI v6) (t8 : ipTab 33 509 0 15 #[79, 102, 125, 148, 181, 224, 247, 322, 335, 358, 391, 404, 437, 450, 463, 486] ((nI v6) &&& (nI 15)) = some tgt) (K : ip sc call 152 MC MS Q tgt [some (.ref r_0), some (.ref r_1), some (.ref r_2), some (.int (nI a_3))] [] h z c s) : ip sc call 152 MC MS Q 27 [some (.ref r_0), some (.ref r_1), some (.ref r_2), some (.int (nI a_3))] [] h z c s := by
  refine jp_load (pc2 := 28) (n := 0) rfl rfl rfl rfl ?_
  refine jp_load (pc2 := 29) (n := 3) rfl rfl rfl rfl ?_
  refine jp_iald (pc2 := 30) rfl rfl e3 (vp_in_nI b4 c5) ?_
  rw [(nI_clamp (Nat.lt_trans b4 c5))]
  rw [e7]
  refine jp_con (pc2 := 32) (v := (.int (nI 15))) rfl rfl rfl ?_
  refine jp_bin (pc2 := 33) (v := (nI v6) &&& (nI 15)) rfl rfl rfl ?_
  exact ip_tab rfl t8 K
set_option maxRecDepth 100000 in
theorem c152_130 {r_0 : Nat} {r_1 : Nat} {r_2 : Nat} {a_3 : Nat} {sa_0 : Nat} {sa_1 : Nat} (c1 : sa_0 < 2147483648) (c2 : sa_1 < 2147483648) (K1 : sa_0 = sa_1 → ip sc call 152 MC MS Q 542 [some (.ref r_0), some (.ref r_1), some (.ref r_2), some (.int (nI a_3))] [] h z c s) (K2 : ¬ (sa_0 = sa_1) → ip sc call 152 MC MS Q 133 [some (.ref r_0), some (.ref r_1), some (.ref r_2), some (.int (nI a_3))] [] h z c s) : ip sc call 152 MC MS Q 130 [some (.ref r_0), some (.ref r_1), some (.ref r_2), some (.int (nI a_3))] [(.int (nI sa_1)), (.int (nI sa_0))] h z c s := by
  exact jp_icmp (pc2 := 133) rfl rfl (fun q => K1 ((nI_eq c1 c2).mp q)) (fun q => K2 (fun r => q ((nI_eq c1 c2).mpr r)))
set_option maxRecDepth 100000 in
theorem c152_133 {o_0 : Option Value} {o_1 : Option Value} {o_2 : Option Value} {o_3 : Option Value} (q1 : Q (some (.int (nI 0))) h z)  : ip sc call 152 MC MS Q 133 [o_0, o_1, o_2, o_3] [] h z c s := by
  refine jp_con (pc2 := 134) (v := (.int (nI 0))) rfl rfl rfl ?_
  exact ip_iret (st := []) rfl rfl rfl q1
set_option maxRecDepth 100000 in
theorem c152_153 {r_0 : Nat} {r_1 : Nat} {r_2 : Nat} {a_3 : Nat} {sa_0 : Nat} {sa_1 : Nat} (c1 : sa_0 < 2147483648) (c2 : sa_1 < 2147483648) (K1 : sa_0 = sa_1 → ip sc call 152 MC MS Q 542 [some (.ref r_0), some (.ref r_1), some (.ref r_2), some (.int (nI a_3))] [] h z c s) (K2 : ¬ (sa_0 = sa_1) → ip sc call 152 MC MS Q 156 [some (.ref r_0), some (.ref r_1), some (.ref r_2), some (.int (nI a_3))] [] h z c s) : ip sc call 152 MC MS Q 153 [some (.ref r_0), some (.ref r_1), some (.ref r_2), some (.int (nI a_3))] [(.int (nI sa_1)), (.int (nI sa_0))] h z c s := by
  exact jp_icmp (pc2 := 156) rfl rfl (fun q => K1 ((nI_eq c1 c2).mp q)) (fun q => K2 (fun r => q ((nI_eq c1 c2).mpr r)))
set_option maxRecDepth 100000 in
theorem c152_156 {o_0 : Option Value} {o_1 : Option Value} {o_2 : Option Value} {o_3 : Option Value} (q1 : Q (some (.int (nI 0))) h z)  : ip sc call 152 MC MS Q 156 [o_0, o_1, o_2, o_3] [] h z c s := by
  refine jp_con (pc2 := 157) (v := (.int (nI 0))) rfl rfl rfl ?_
  exact ip_iret (st := []) rfl rfl rfl q1
set_option maxRecDepth 100000 in
theorem c152_176 {r_0 : Nat} {r_1 : Nat} {r_2 : Nat} {a_3 : Nat} {sa_0 : Nat} {sa_1 : Nat} (c1 : sa_0 < 2147483648) (c2 : sa_1 < 2147483648) (K1 : sa_0 = sa_1 → ip sc call 152 MC MS Q 542 [some (.ref r_0), some (.ref r_1), some (.ref r_2), some (.int (nI a_3))] [] h z c s) (K2 : ¬ (sa_0 = sa_1) → ip sc call 152 MC MS Q 179 [some (.ref r_0), some (.ref r_1), some (.ref r_2), some (.int (nI a_3))] [] h z c s) : ip sc call 152 MC MS Q 176 [some (.ref r_0), some (.ref r_1), some (.ref r_2), some (.int (nI a_3))] [(.int (nI sa_1)), (.int (nI sa_0))] h z c s := by
  exact jp_icmp (pc2 := 179) rfl rfl (fun q => K1 ((nI_eq c1 c2).mp q)) (fun q => K2 (fun r => q ((nI_eq c1 c2).mpr r)))
set_option maxRecDepth 100000 in
theorem c152_179 {o_0 : Option Value} {o_1 : Option Value} {o_2 : Option Value} {o_3 : Option Value} (q1 : Q (some (.int (nI 0))) h z)  : ip sc call 152 MC MS Q 179 [o_0, o_1, o_2, o_3] [] h z c s := by
  refine jp_con (pc2 := 180) (v := (.int (nI 0))) rfl rfl rfl ?_
  exact ip_iret (st := []) rfl rfl rfl q1
set_option maxRecDepth 100000 in
theorem c152_209 {r_0 : Nat} {r_1 : Nat} {r_2 : Nat} {a_3 : Nat} {sa_0 : Nat} {sa_1 : Nat} (c1 : sa_0 < 2147483648) (c2 : sa_1 < 2147483648) (K1 : sa_0 = sa_1 → ip sc call 152 MC MS Q 542 [some (.ref r_0), some (.ref r_1), some (.ref r_2), some (.int (nI a_3))] [] h z c s) (K2 : ¬ (sa_0 = sa_1) → ip sc call 152 MC MS Q 212 [some (.ref r_0), some (.ref r_1), some (.ref r_2), some (.int (nI a_3))] [] h z c s) : ip sc call 152 MC MS Q 209 [some (.ref r_0), some (.ref r_1), some (.ref r_2), some (.int (nI a_3))] [(.int (nI sa_1)), (.int (nI sa_0))] h z c s := by
  exact jp_icmp (pc2 := 212) rfl rfl (fun q => K1 ((nI_eq c1 c2).mp q)) (fun q => K2 (fun r => q ((nI_eq c1 c2).mpr r)))
set_option maxRecDepth 100000 in
theorem c152_212 {o_0 : Option Value} {o_1 : Option Value} {o_2 : Option Value} {o_3 : Option Value} (q1 : Q (some (.int (nI 0))) h z)  : ip sc call 152 MC MS Q 212 [o_0, o_1, o_2, o_3] [] h z c s := by
  refine jp_con (pc2 := 213) (v := (.int (nI 0))) rfl rfl rfl ?_
  exact ip_iret (st := []) rfl rfl rfl q1
set_option maxRecDepth 100000 in
theorem c152_252 {r_0 : Nat} {r_1 : Nat} {r_2 : Nat} {a_3 : Nat} {sa_0 : Nat} {sa_1 : Nat} (c1 : sa_0 < 2147483648) (c2 : sa_1 < 2147483648) (K1 : sa_0 = sa_1 → ip sc call 152 MC MS Q 542 [some (.ref r_0), some (.ref r_1), some (.ref r_2), some (.int (nI a_3))] [] h z c s) (K2 : ¬ (sa_0 = sa_1) → ip sc call 152 MC MS Q 255 [some (.ref r_0), some (.ref r_1), some (.ref r_2), some (.int (nI a_3))] [] h z c s) : ip sc call 152 MC MS Q 252 [some (.ref r_0), some (.ref r_1), some (.ref r_2), some (.int (nI a_3))] [(.int (nI sa_1)), (.int (nI sa_0))] h z c s := by
  exact jp_icmp (pc2 := 255) rfl rfl (fun q => K1 ((nI_eq c1 c2).mp q)) (fun q => K2 (fun r => q ((nI_eq c1 c2).mpr r)))
set_option maxRecDepth 100000 in
theorem c152_255 {o_0 : Option Value} {o_1 : Option Value} {o_2 : Option Value} {o_3 : Option Value} (q1 : Q (some (.int (nI 0))) h z)  : ip sc call 152 MC MS Q 255 [o_0, o_1, o_2, o_3] [] h z c s := by
  refine jp_con (pc2 := 256) (v := (.int (nI 0))) rfl rfl rfl ?_
  exact ip_iret (st := []) rfl rfl rfl q1
set_option maxRecDepth 100000 in
theorem c152_275 {r_0 : Nat} {r_1 : Nat} {r_2 : Nat} {a_3 : Nat} {sa_0 : Nat} {sa_1 : Nat} (c1 : sa_0 < 2147483648) (c2 : sa_1 < 2147483648) (K1 : sa_0 = sa_1 → ip sc call 152 MC MS Q 542 [some (.ref r_0), some (.ref r_1), some (.ref r_2), some (.int (nI a_3))] [] h z c s) (K2 : ¬ (sa_0 = sa_1) → ip sc call 152 MC MS Q 278 [some (.ref r_0), some (.ref r_1), some (.ref r_2), some (.int (nI a_3))] [] h z c s) : ip sc call 152 MC MS Q 275 [some (.ref r_0), some (.ref r_1), some (.ref r_2), some (.int (nI a_3))] [(.int (nI sa_1)), (.int (nI sa_0))] h z c s := by
  exact jp_icmp (pc2 := 278) rfl rfl (fun q => K1 ((nI_eq c1 c2).mp q)) (fun q => K2 (fun r => q ((nI_eq c1 c2).mpr r)))
set_option maxRecDepth 100000 in
theorem c152_278 {o_0 : Option Value} {o_1 : Option Value} {o_2 : Option Value} {o_3 : Option Value} (q1 : Q (some (.int (nI 0))) h z)  : ip sc call 152 MC MS Q 278 [o_0, o_1, o_2, o_3] [] h z c s := by
  refine jp_con (pc2 := 279) (v := (.int (nI 0))) rfl rfl rfl ?_
  exact ip_iret (st := []) rfl rfl rfl q1
set_option maxRecDepth 100000 in
theorem c152_350 {r_0 : Nat} {r_1 : Nat} {r_2 : Nat} {a_3 : Nat} {sa_0 : Nat} {sa_1 : Nat} (c1 : sa_0 < 2147483648) (c2 : sa_1 < 2147483648) (K1 : sa_0 = sa_1 → ip sc call 152 MC MS Q 542 [some (.ref r_0), some (.ref r_1), some (.ref r_2), some (.int (nI a_3))] [] h z c s) (K2 : ¬ (sa_0 = sa_1) → ip sc call 152 MC MS Q 353 [some (.ref r_0), some (.ref r_1), some (.ref r_2), some (.int (nI a_3))] [] h z c s) : ip sc call 152 MC MS Q 350 [some (.ref r_0), some (.ref r_1), some (.ref r_2), some (.int (nI a_3))] [(.int (nI sa_1)), (.int (nI sa_0))] h z c s := by
  exact jp_icmp (pc2 := 353) rfl rfl (fun q => K1 ((nI_eq c1 c2).mp q)) (fun q => K2 (fun r => q ((nI_eq c1 c2).mpr r)))
set_option maxRecDepth 100000 in
theorem c152_353 {o_0 : Option Value} {o_1 : Option Value} {o_2 : Option Value} {o_3 : Option Value} (q1 : Q (some (.int (nI 0))) h z)  : ip sc call 152 MC MS Q 353 [o_0, o_1, o_2, o_3] [] h z c s := by
  refine jp_con (pc2 := 354) (v := (.int (nI 0))) rfl rfl rfl ?_
  exact ip_iret (st := []) rfl rfl rfl q1
set_option maxRecDepth 100000 in
theorem c152_363 {r_0 : Nat} {r_1 : Nat} {r_2 : Nat} {a_3 : Nat} {sa_0 : Nat} {sa_1 : Nat} (c1 : sa_0 < 2147483648) (c2 : sa_1 < 2147483648) (K1 : sa_0 = sa_1 → ip sc call 152 MC MS Q 542 [some (.ref r_0), some (.ref r_1), some (.ref r_2), some (.int (nI a_3))] [] h z c s) (K2 : ¬ (sa_0 = sa_1) → ip sc call 152 MC MS Q 366 [some (.ref r_0), some (.ref r_1), some (.ref r_2), some (.int (nI a_3))] [] h z c s) : ip sc call 152 MC MS Q 363 [some (.ref r_0), some (.ref r_1), some (.ref r_2), some (.int (nI a_3))] [(.int (nI sa_1)), (.int (nI sa_0))] h z c s := by
  exact jp_icmp (pc2 := 366) rfl rfl (fun q => K1 ((nI_eq c1 c2).mp q)) (fun q => K2 (fun r => q ((nI_eq c1 c2).mpr r)))
set_option maxRecDepth 100000 in
theorem c152_366 {o_0 : Option Value} {o_1 : Option Value} {o_2 : Option Value} {o_3 : Option Value} (q1 : Q (some (.int (nI 0))) h z)  : ip sc call 152 MC MS Q 366 [o_0, o_1, o_2, o_3] [] h z c s := by
  refine jp_con (pc2 := 367) (v := (.int (nI 0))) rfl rfl rfl ?_
  exact ip_iret (st := []) rfl rfl rfl q1
set_option maxRecDepth 100000 in
theorem c152_386 {r_0 : Nat} {r_1 : Nat} {r_2 : Nat} {a_3 : Nat} {sa_0 : Nat} {sa_1 : Nat} (c1 : sa_0 < 2147483648) (c2 : sa_1 < 2147483648) (K1 : sa_0 = sa_1 → ip sc call 152 MC MS Q 542 [some (.ref r_0), some (.ref r_1), some (.ref r_2), some (.int (nI a_3))] [] h z c s) (K2 : ¬ (sa_0 = sa_1) → ip sc call 152 MC MS Q 389 [some (.ref r_0), some (.ref r_1), some (.ref r_2), some (.int (nI a_3))] [] h z c s) : ip sc call 152 MC MS Q 386 [some (.ref r_0), some (.ref r_1), some (.ref r_2), some (.int (nI a_3))] [(.int (nI sa_1)), (.int (nI sa_0))] h z c s := by
  exact jp_icmp (pc2 := 389) rfl rfl (fun q => K1 ((nI_eq c1 c2).mp q)) (fun q => K2 (fun r => q ((nI_eq c1 c2).mpr r)))
set_option maxRecDepth 100000 in
theorem c152_389 {o_0 : Option Value} {o_1 : Option Value} {o_2 : Option Value} {o_3 : Option Value} (q1 : Q (some (.int (nI 0))) h z)  : ip sc call 152 MC MS Q 389 [o_0, o_1, o_2, o_3] [] h z c s := by
  refine jp_con (pc2 := 390) (v := (.int (nI 0))) rfl rfl rfl ?_
  exact ip_iret (st := []) rfl rfl rfl q1
set_option maxRecDepth 100000 in
theorem c152_419 {r_0 : Nat} {r_1 : Nat} {r_2 : Nat} {a_3 : Nat} {sa_0 : Nat} {sa_1 : Nat} (c1 : sa_0 < 2147483648) (c2 : sa_1 < 2147483648) (K1 : sa_0 = sa_1 → ip sc call 152 MC MS Q 542 [some (.ref r_0), some (.ref r_1), some (.ref r_2), some (.int (nI a_3))] [] h z c s) (K2 : ¬ (sa_0 = sa_1) → ip sc call 152 MC MS Q 422 [some (.ref r_0), some (.ref r_1), some (.ref r_2), some (.int (nI a_3))] [] h z c s) : ip sc call 152 MC MS Q 419 [some (.ref r_0), some (.ref r_1), some (.ref r_2), some (.int (nI a_3))] [(.int (nI sa_1)), (.int (nI sa_0))] h z c s := by
  exact jp_icmp (pc2 := 422) rfl rfl (fun q => K1 ((nI_eq c1 c2).mp q)) (fun q => K2 (fun r => q ((nI_eq c1 c2).mpr r)))
set_option maxRecDepth 100000 in
theorem c152_422 {o_0 : Option Value} {o_1 : Option Value} {o_2 : Option Value} {o_3 : Option Value} (q1 : Q (some (.int (nI 0))) h z)  : ip sc call 152 MC MS Q 422 [o_0, o_1, o_2, o_3] [] h z c s := by
  refine jp_con (pc2 := 423) (v := (.int (nI 0))) rfl rfl rfl ?_
  exact ip_iret (st := []) rfl rfl rfl q1
set_option maxRecDepth 100000 in
theorem c152_432 {r_0 : Nat} {r_1 : Nat} {r_2 : Nat} {a_3 : Nat} {sa_0 : Nat} {sa_1 : Nat} (c1 : sa_0 < 2147483648) (c2 : sa_1 < 2147483648) (K1 : sa_0 = sa_1 → ip sc call 152 MC MS Q 542 [some (.ref r_0), some (.ref r_1), some (.ref r_2), some (.int (nI a_3))] [] h z c s) (K2 : ¬ (sa_0 = sa_1) → ip sc call 152 MC MS Q 435 [some (.ref r_0), some (.ref r_1), some (.ref r_2), some (.int (nI a_3))] [] h z c s) : ip sc call 152 MC MS Q 432 [some (.ref r_0), some (.ref r_1), some (.ref r_2), some (.int (nI a_3))] [(.int (nI sa_1)), (.int (nI sa_0))] h z c s := by
  exact jp_icmp (pc2 := 435) rfl rfl (fun q => K1 ((nI_eq c1 c2).mp q)) (fun q => K2 (fun r => q ((nI_eq c1 c2).mpr r)))
set_option maxRecDepth 100000 in
theorem c152_435 {o_0 : Option Value} {o_1 : Option Value} {o_2 : Option Value} {o_3 : Option Value} (q1 : Q (some (.int (nI 0))) h z)  : ip sc call 152 MC MS Q 435 [o_0, o_1, o_2, o_3] [] h z c s := by
  refine jp_con (pc2 := 436) (v := (.int (nI 0))) rfl rfl rfl ?_
  exact ip_iret (st := []) rfl rfl rfl q1
set_option maxRecDepth 100000 in
theorem c152_465 {r_0 : Nat} {r_1 : Nat} {r_2 : Nat} {a_3 : Nat} {sa_0 : Nat} {sa_1 : Nat} (c1 : sa_0 < 2147483648) (c2 : sa_1 < 2147483648) (K1 : sa_0 = sa_1 → ip sc call 152 MC MS Q 542 [some (.ref r_0), some (.ref r_1), some (.ref r_2), some (.int (nI a_3))] [] h z c s) (K2 : ¬ (sa_0 = sa_1) → ip sc call 152 MC MS Q 468 [some (.ref r_0), some (.ref r_1), some (.ref r_2), some (.int (nI a_3))] [] h z c s) : ip sc call 152 MC MS Q 465 [some (.ref r_0), some (.ref r_1), some (.ref r_2), some (.int (nI a_3))] [(.int (nI sa_1)), (.int (nI sa_0))] h z c s := by
  exact jp_icmp (pc2 := 468) rfl rfl (fun q => K1 ((nI_eq c1 c2).mp q)) (fun q => K2 (fun r => q ((nI_eq c1 c2).mpr r)))
set_option maxRecDepth 100000 in
theorem c152_468 {o_0 : Option Value} {o_1 : Option Value} {o_2 : Option Value} {o_3 : Option Value} (q1 : Q (some (.int (nI 0))) h z)  : ip sc call 152 MC MS Q 468 [o_0, o_1, o_2, o_3] [] h z c s := by
  refine jp_con (pc2 := 469) (v := (.int (nI 0))) rfl rfl rfl ?_
  exact ip_iret (st := []) rfl rfl rfl q1
set_option maxRecDepth 100000 in
theorem c152_478 {r_0 : Nat} {r_1 : Nat} {r_2 : Nat} {a_3 : Nat} {sa_0 : Nat} {sa_1 : Nat} (c1 : sa_0 < 2147483648) (c2 : sa_1 < 2147483648) (K1 : sa_0 = sa_1 → ip sc call 152 MC MS Q 542 [some (.ref r_0), some (.ref r_1), some (.ref r_2), some (.int (nI a_3))] [] h z c s) (K2 : ¬ (sa_0 = sa_1) → ip sc call 152 MC MS Q 481 [some (.ref r_0), some (.ref r_1), some (.ref r_2), some (.int (nI a_3))] [] h z c s) : ip sc call 152 MC MS Q 478 [some (.ref r_0), some (.ref r_1), some (.ref r_2), some (.int (nI a_3))] [(.int (nI sa_1)), (.int (nI sa_0))] h z c s := by
  exact jp_icmp (pc2 := 481) rfl rfl (fun q => K1 ((nI_eq c1 c2).mp q)) (fun q => K2 (fun r => q ((nI_eq c1 c2).mpr r)))
set_option maxRecDepth 100000 in
theorem c152_481 {o_0 : Option Value} {o_1 : Option Value} {o_2 : Option Value} {o_3 : Option Value} (q1 : Q (some (.int (nI 0))) h z)  : ip sc call 152 MC MS Q 481 [o_0, o_1, o_2, o_3] [] h z c s := by
  refine jp_con (pc2 := 482) (v := (.int (nI 0))) rfl rfl rfl ?_
  exact ip_iret (st := []) rfl rfl rfl q1
set_option maxRecDepth 100000 in
theorem c152_491 {r_0 : Nat} {r_1 : Nat} {r_2 : Nat} {a_3 : Nat} {sa_0 : Nat} {sa_1 : Nat} (c1 : sa_0 < 2147483648) (c2 : sa_1 < 2147483648) (K1 : sa_0 = sa_1 → ip sc call 152 MC MS Q 542 [some (.ref r_0), some (.ref r_1), some (.ref r_2), some (.int (nI a_3))] [] h z c s) (K2 : ¬ (sa_0 = sa_1) → ip sc call 152 MC MS Q 494 [some (.ref r_0), some (.ref r_1), some (.ref r_2), some (.int (nI a_3))] [] h z c s) : ip sc call 152 MC MS Q 491 [some (.ref r_0), some (.ref r_1), some (.ref r_2), some (.int (nI a_3))] [(.int (nI sa_1)), (.int (nI sa_0))] h z c s := by
  exact jp_icmp (pc2 := 494) rfl rfl (fun q => K1 ((nI_eq c1 c2).mp q)) (fun q => K2 (fun r => q ((nI_eq c1 c2).mpr r)))
set_option maxRecDepth 100000 in
theorem c152_494 {o_0 : Option Value} {o_1 : Option Value} {o_2 : Option Value} {o_3 : Option Value} (q1 : Q (some (.int (nI 0))) h z)  : ip sc call 152 MC MS Q 494 [o_0, o_1, o_2, o_3] [] h z c s := by
  refine jp_con (pc2 := 495) (v := (.int (nI 0))) rfl rfl rfl ?_
  exact ip_iret (st := []) rfl rfl rfl q1
set_option maxRecDepth 100000 in
theorem c152_514 {r_0 : Nat} {r_1 : Nat} {r_2 : Nat} {a_3 : Nat} {sa_0 : Nat} {sa_1 : Nat} (c1 : sa_0 < 2147483648) (c2 : sa_1 < 2147483648) (K1 : sa_0 = sa_1 → ip sc call 152 MC MS Q 542 [some (.ref r_0), some (.ref r_1), some (.ref r_2), some (.int (nI a_3))] [] h z c s) (K2 : ¬ (sa_0 = sa_1) → ip sc call 152 MC MS Q 517 [some (.ref r_0), some (.ref r_1), some (.ref r_2), some (.int (nI a_3))] [] h z c s) : ip sc call 152 MC MS Q 514 [some (.ref r_0), some (.ref r_1), some (.ref r_2), some (.int (nI a_3))] [(.int (nI sa_1)), (.int (nI sa_0))] h z c s := by
  exact jp_icmp (pc2 := 517) rfl rfl (fun q => K1 ((nI_eq c1 c2).mp q)) (fun q => K2 (fun r => q ((nI_eq c1 c2).mpr r)))
set_option maxRecDepth 100000 in
theorem c152_517 {o_0 : Option Value} {o_1 : Option Value} {o_2 : Option Value} {o_3 : Option Value} (q1 : Q (some (.int (nI 0))) h z)  : ip sc call 152 MC MS Q 517 [o_0, o_1, o_2, o_3] [] h z c s := by
  refine jp_con (pc2 := 518) (v := (.int (nI 0))) rfl rfl rfl ?_
  exact ip_iret (st := []) rfl rfl rfl q1
set_option maxRecDepth 100000 in
theorem c152_537 {r_0 : Nat} {r_1 : Nat} {r_2 : Nat} {a_3 : Nat} {sa_0 : Nat} {sa_1 : Nat} (c1 : sa_0 < 2147483648) (c2 : sa_1 < 2147483648) (K1 : sa_0 = sa_1 → ip sc call 152 MC MS Q 542 [some (.ref r_0), some (.ref r_1), some (.ref r_2), some (.int (nI a_3))] [] h z c s) (K2 : ¬ (sa_0 = sa_1) → ip sc call 152 MC MS Q 540 [some (.ref r_0), some (.ref r_1), some (.ref r_2), some (.int (nI a_3))] [] h z c s) : ip sc call 152 MC MS Q 537 [some (.ref r_0), some (.ref r_1), some (.ref r_2), some (.int (nI a_3))] [(.int (nI sa_1)), (.int (nI sa_0))] h z c s := by
  exact jp_icmp (pc2 := 540) rfl rfl (fun q => K1 ((nI_eq c1 c2).mp q)) (fun q => K2 (fun r => q ((nI_eq c1 c2).mpr r)))
set_option maxRecDepth 100000 in
theorem c152_540 {o_0 : Option Value} {o_1 : Option Value} {o_2 : Option Value} {o_3 : Option Value} (q1 : Q (some (.int (nI 0))) h z)  : ip sc call 152 MC MS Q 540 [o_0, o_1, o_2, o_3] [] h z c s := by
  refine jp_con (pc2 := 541) (v := (.int (nI 0))) rfl rfl rfl ?_
  exact ip_iret (st := []) rfl rfl rfl q1
set_option maxRecDepth 100000 in
theorem c152_542 {r_0 : Nat} {r_1 : Nat} {r_2 : Nat} {a_3 : Nat}  (K : ip sc call 152 MC MS Q 18 [some (.ref r_0), some (.ref r_1), some (.ref r_2), some (.int (nI (a_3 + 7)))] [] h z c s) : ip sc call 152 MC MS Q 542 [some (.ref r_0), some (.ref r_1), some (.ref r_2), some (.int (nI a_3))] [] h z c s := by
  refine jp_iinc (pc2 := 545) (n := 3) (v := nI (a_3 + 7)) rfl rfl rfl (nI_add _ 7) rfl ?_
  refine ip_goto rfl ?_
  exact K
set_option maxRecDepth 100000 in
theorem c152_548 {o_0 : Option Value} {o_1 : Option Value} {o_2 : Option Value} {o_3 : Option Value} (q1 : Q (some (.int (nI 1))) h z)  : ip sc call 152 MC MS Q 548 [o_0, o_1, o_2, o_3] [] h z c s := by
  refine jp_con (pc2 := 549) (v := (.int (nI 1))) rfl rfl rfl ?_
  exact ip_iret (st := []) rfl rfl rfl q1
end BLK
