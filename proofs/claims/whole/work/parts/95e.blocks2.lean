/-! further straight stretches of bytecode, printed by wip/whole/gen_blk2.py -/
section JP2
variable {sc : ipSc} {call : ipCall} {mid MC MS : Nat} {Q : ipQ} {pc pc2 len a b : Nat} {lv : ipV} {st : List Value} {h : HP} {z c s : Nat}
theorem jp_sald {i : Int32} (h0 : ipAt mid pc = some (.iaload, len, a, b)) (hp : pc + len = pc2) (h1 : vp_in i sc.2.1) (K : ip sc call mid MC MS Q pc2 lv (.int (sc.2.2 i.toNatClampNeg) :: st) h z c s) : ip sc call mid MC MS Q pc lv (.int i :: .ref sc.1 :: st) h z c s := by subst hp; exact ip_sald h0 h1 K
theorem jp_slen (h0 : ipAt mid pc = some (.arraylength, len, a, b)) (hp : pc + len = pc2) (K : ip sc call mid MC MS Q pc2 lv (.int (Int32.ofNat sc.2.1) :: st) h z c s) : ip sc call mid MC MS Q pc lv (.ref sc.1 :: st) h z c s := by subst hp; exact ip_slen h0 K
end JP2
section BLK
variable {sc : ipSc} {call : ipCall} {MC MS : Nat} {Q : ipQ} {h : HP} {z c s : Nat}
theorem b0_12s {r_0 : Nat} {o_1 : Option Value} {sr_1 : Nat} {fs1 : List Value} (e2 : h r_0 = some (.inr (0, fs1))) (l3 : fs1.length = 2) (m4 : c + 1 ≤ MC) (m5 : s + 24 ≤ MS) (n6 : r_0 ≠ z) (K : ip sc call 0 MC MS Q 26 [some (.ref r_0), some (.int 0)] [] (hup (hup (hup h r_0 (.inr (0, (fs1.set 0 (.ref sr_1))))) z (.inl (5, 24, .inr (.inr (.inr (.inr (fun _ => none))))))) r_0 (.inr (0, ((fs1.set 0 (.ref sr_1)).set 1 (.ref z))))) (z + 1) (c + 1) (s + 24)) : ip sc call 0 MC MS Q 12 [some (.ref r_0), o_1] [(.ref sr_1), (.ref r_0)] h z c s := by
  refine jp_putf (pc2 := 15) rfl rfl e2 (ln_lt l3 (by decide)) ⟨rfl, rfl⟩ ?_
  refine jp_load (pc2 := 16) (n := 0) rfl rfl rfl rfl ?_
  refine jp_con (pc2 := 18) (v := .int 24) rfl rfl rfl ?_
  refine jp_newq (pc2 := 21) (N := 24) rfl rfl (by decide) (by decide) (by decide) m4 m5 ?_
  refine jp_putf (pc2 := 24) rfl rfl (hup_ne n6 hup_eq) (ls_lt (ln_lt l3 (by decide))) ⟨rfl, rfl⟩ ?_
  refine jp_con (pc2 := 25) (v := .int 0) rfl rfl rfl ?_
  refine jp_store (pc2 := 26) (n := 1) rfl rfl ⟨rfl, rfl⟩ rfl (Nat.le_of_ble_eq_true rfl) ?_
  exact K
theorem b65_12gs {r_0 : Nat} {o_1 : Option Value} {sr_1 : Nat} {fs1 : List Value} {P : ipQ} {mc ms : Nat} (e2 : h r_0 = some (.inr (7, fs1))) (l3 : fs1.length = 9) (m4 : c + 1 ≤ MC) (m5 : s + 13 ≤ MS) (n6 : r_0 ≠ z) (m7 : c + 1 + mc ≤ MC) (m8 : s + 13 + ms ≤ MS) (hc : call 14 [(.ref z), (.ref sr_1)] (hup (hup h r_0 (.inr (7, (fs1.set 0 (.ref sr_1))))) z (.inr (3, (ipDef 3)))) (z + 1) mc ms P) (K : ∀ (o : Option Value) (h2 : HP) (z2 : Nat), P o h2 z2 → ip sc call 65 MC MS Q 27 [some (.ref r_0), o_1] (o.toList ++ [(.ref z), (.ref r_0)]) h2 z2 (c + 1 + mc) (s + 13 + ms)) : ip sc call 65 MC MS Q 12 [some (.ref r_0), o_1] [(.ref sr_1), (.ref r_0)] h z c s := by
  refine jp_putf (pc2 := 15) rfl rfl e2 (ln_lt l3 (by decide)) ⟨rfl, rfl⟩ ?_
  refine jp_load (pc2 := 16) (n := 0) rfl rfl rfl rfl ?_
  refine jp_new (pc2 := 19) (N := 13) rfl rfl rfl m4 m5 ?_
  refine jp_dup (pc2 := 20) rfl rfl rfl ?_
  refine jp_load (pc2 := 21) (n := 0) rfl rfl rfl rfl ?_
  refine jp_getf (pc2 := 24) rfl rfl (hup_ne n6 hup_eq) (gs_eq (ln_lt l3 (by decide))) ?_
  exact jp_spec (pc2 := 27) (As := [(.ref sr_1)]) (rest := [(.ref z), (.ref r_0)]) rfl rfl rfl (Nat.le_of_ble_eq_true rfl) m7 m8 (by decide) hc rfl K
theorem b65_27gs {r_0 : Nat} {o_1 : Option Value} {sr_1 : Nat} {fs1 : List Value} {P : ipQ} {mc ms : Nat} (e2 : h r_0 = some (.inr (7, fs1))) (l3 : fs1.length = 9) (m4 : c + 1 ≤ MC) (m5 : s + 3 ≤ MS) (m6 : c + 1 + mc ≤ MC) (m7 : s + 3 + ms ≤ MS) (hc : call 6 [(.ref z)] (hup (hup h r_0 (.inr (7, (fs1.set 1 (.ref sr_1))))) z (.inr (1, (ipDef 1)))) (z + 1) mc ms P) (K : ∀ (o : Option Value) (h2 : HP) (z2 : Nat), P o h2 z2 → ip sc call 65 MC MS Q 38 [some (.ref r_0), o_1] (o.toList ++ [(.ref z), (.ref r_0)]) h2 z2 (c + 1 + mc) (s + 3 + ms)) : ip sc call 65 MC MS Q 27 [some (.ref r_0), o_1] [(.ref sr_1), (.ref r_0)] h z c s := by
  refine jp_putf (pc2 := 30) rfl rfl e2 (ln_lt l3 (by decide)) ⟨rfl, rfl⟩ ?_
  refine jp_load (pc2 := 31) (n := 0) rfl rfl rfl rfl ?_
  refine jp_new (pc2 := 34) (N := 3) rfl rfl rfl m4 m5 ?_
  refine jp_dup (pc2 := 35) rfl rfl rfl ?_
  exact jp_spec (pc2 := 38) (As := []) (rest := [(.ref z), (.ref r_0)]) rfl rfl rfl (Nat.le_of_ble_eq_true rfl) m6 m7 (by decide) hc rfl K
theorem b65_38gs {r_0 : Nat} {o_1 : Option Value} {sr_1 : Nat} {fs1 : List Value} {P : ipQ} {mc ms : Nat} (e2 : h r_0 = some (.inr (7, fs1))) (l3 : fs1.length = 9) (m4 : c + 1 ≤ MC) (m5 : s + 11 ≤ MS) (m6 : c + 1 + mc ≤ MC) (m7 : s + 11 + ms ≤ MS) (hc : call 35 [(.ref z), (.int 1)] (hup (hup h r_0 (.inr (7, (fs1.set 2 (.ref sr_1))))) z (.inr (6, (ipDef 6)))) (z + 1) mc ms P) (K : ∀ (o : Option Value) (h2 : HP) (z2 : Nat), P o h2 z2 → ip sc call 65 MC MS Q 50 [some (.ref r_0), o_1] (o.toList ++ [(.ref z), (.ref r_0)]) h2 z2 (c + 1 + mc) (s + 11 + ms)) : ip sc call 65 MC MS Q 38 [some (.ref r_0), o_1] [(.ref sr_1), (.ref r_0)] h z c s := by
  refine jp_putf (pc2 := 41) rfl rfl e2 (ln_lt l3 (by decide)) ⟨rfl, rfl⟩ ?_
  refine jp_load (pc2 := 42) (n := 0) rfl rfl rfl rfl ?_
  refine jp_new (pc2 := 45) (N := 11) rfl rfl rfl m4 m5 ?_
  refine jp_dup (pc2 := 46) rfl rfl rfl ?_
  refine jp_con (pc2 := 47) (v := .int 1) rfl rfl rfl ?_
  exact jp_spec (pc2 := 50) (As := [(.int 1)]) (rest := [(.ref z), (.ref r_0)]) rfl rfl rfl (Nat.le_of_ble_eq_true rfl) m6 m7 (by decide) hc rfl K
theorem b65_50s {r_0 : Nat} {o_1 : Option Value} {sr_1 : Nat} {fs1 : List Value} (e2 : h r_0 = some (.inr (7, fs1))) (l3 : fs1.length = 9) (m4 : c + 1 ≤ MC) (m5 : s + 9 ≤ MS) (n6 : r_0 ≠ z) (m7 : c + 1 + 1 ≤ MC) (m8 : s + 9 + 9 ≤ MS) (n9 : r_0 ≠ z + 1) (m10 : c + 1 + 1 + 1 ≤ MC) (m11 : s + 9 + 9 + 50 ≤ MS) (n12 : r_0 ≠ z + 1 + 1) (m13 : c + 1 + 1 + 1 + 1 ≤ MC) (m14 : s + 9 + 9 + 50 + 50 ≤ MS) (n15 : r_0 ≠ z + 1 + 1 + 1) (m16 : c + 1 + 1 + 1 + 1 + 1 ≤ MC) (m17 : s + 9 + 9 + 50 + 50 + 16 ≤ MS) (n18 : r_0 ≠ z + 1 + 1 + 1 + 1) (K : ip sc call 65 MC MS Q 97 [some (.ref r_0), some (.int 0)] [] (hup (hup (hup (hup (hup (hup (hup (hup (hup (hup (hup h r_0 (.inr (7, (fs1.set 3 (.ref sr_1))))) z (.inl (5, 9, .inr (.inr (.inr (.inr (fun _ => none))))))) r_0 (.inr (7, ((fs1.set 3 (.ref sr_1)).set 4 (.ref z))))) (z + 1) (.inl (4, 9, .inr (.inr (.inr (.inr (fun _ => none))))))) r_0 (.inr (7, (((fs1.set 3 (.ref sr_1)).set 4 (.ref z)).set 5 (.ref (z + 1)))))) (z + 1 + 1) (.inl (1, 50, .inr (.inl (fun _ => 0))))) r_0 (.inr (7, ((((fs1.set 3 (.ref sr_1)).set 4 (.ref z)).set 5 (.ref (z + 1))).set 6 (.ref (z + 1 + 1)))))) (z + 1 + 1 + 1) (.inl (1, 50, .inr (.inl (fun _ => 0))))) r_0 (.inr (7, (((((fs1.set 3 (.ref sr_1)).set 4 (.ref z)).set 5 (.ref (z + 1))).set 6 (.ref (z + 1 + 1))).set 7 (.ref (z + 1 + 1 + 1)))))) (z + 1 + 1 + 1 + 1) (.inl (0, 16, .inl (fun _ => 0)))) r_0 (.inr (7, ((((((fs1.set 3 (.ref sr_1)).set 4 (.ref z)).set 5 (.ref (z + 1))).set 6 (.ref (z + 1 + 1))).set 7 (.ref (z + 1 + 1 + 1))).set 8 (.ref (z + 1 + 1 + 1 + 1)))))) (z + 1 + 1 + 1 + 1 + 1) (c + 1 + 1 + 1 + 1 + 1) (s + 9 + 9 + 50 + 50 + 16)) : ip sc call 65 MC MS Q 50 [some (.ref r_0), o_1] [(.ref sr_1), (.ref r_0)] h z c s := by
  refine jp_putf (pc2 := 53) rfl rfl e2 (ln_lt l3 (by decide)) ⟨rfl, rfl⟩ ?_
  refine jp_load (pc2 := 54) (n := 0) rfl rfl rfl rfl ?_
  refine jp_con (pc2 := 56) (v := .int 9) rfl rfl rfl ?_
  refine jp_newq (pc2 := 59) (N := 9) rfl rfl (by decide) (by decide) (by decide) m4 m5 ?_
  refine jp_putf (pc2 := 62) rfl rfl (hup_ne n6 hup_eq) (ls_lt (ln_lt l3 (by decide))) ⟨rfl, rfl⟩ ?_
  refine jp_load (pc2 := 63) (n := 0) rfl rfl rfl rfl ?_
  refine jp_con (pc2 := 65) (v := .int 9) rfl rfl rfl ?_
  refine jp_newq (pc2 := 68) (N := 9) rfl rfl (by decide) (by decide) (by decide) m7 m8 ?_
  refine jp_putf (pc2 := 71) rfl rfl (hup_ne n9 hup_eq) (ls_lt (ls_lt (ln_lt l3 (by decide)))) ⟨rfl, rfl⟩ ?_
  refine jp_load (pc2 := 72) (n := 0) rfl rfl rfl rfl ?_
  refine jp_con (pc2 := 74) (v := .int 50) rfl rfl rfl ?_
  refine jp_newa1 (pc2 := 76) (N := 50) rfl rfl (by decide) (by decide) (by decide) m10 m11 ?_
  refine jp_putf (pc2 := 79) rfl rfl (hup_ne n12 hup_eq) (ls_lt (ls_lt (ls_lt (ln_lt l3 (by decide))))) ⟨rfl, rfl⟩ ?_
  refine jp_load (pc2 := 80) (n := 0) rfl rfl rfl rfl ?_
  refine jp_con (pc2 := 82) (v := .int 50) rfl rfl rfl ?_
  refine jp_newa1 (pc2 := 84) (N := 50) rfl rfl (by decide) (by decide) (by decide) m13 m14 ?_
  refine jp_putf (pc2 := 87) rfl rfl (hup_ne n15 hup_eq) (ls_lt (ls_lt (ls_lt (ls_lt (ln_lt l3 (by decide)))))) ⟨rfl, rfl⟩ ?_
  refine jp_load (pc2 := 88) (n := 0) rfl rfl rfl rfl ?_
  refine jp_con (pc2 := 90) (v := .int 16) rfl rfl rfl ?_
  refine jp_newa0 (pc2 := 92) (N := 16) rfl rfl (by decide) (by decide) (by decide) m16 m17 ?_
  refine jp_putf (pc2 := 95) rfl rfl (hup_ne n18 hup_eq) (ls_lt (ls_lt (ls_lt (ls_lt (ls_lt (ln_lt l3 (by decide))))))) ⟨rfl, rfl⟩ ?_
  refine jp_con (pc2 := 96) (v := .int 0) rfl rfl rfl ?_
  refine jp_store (pc2 := 97) (n := 1) rfl rfl ⟨rfl, rfl⟩ rfl (Nat.le_of_ble_eq_true rfl) ?_
  exact K
theorem b73_12gs {r_0 : Nat} {sr_1 : Nat} {fs1 : List Value} {P : ipQ} {mc ms : Nat} (e2 : h r_0 = some (.inr (8, fs1))) (l3 : fs1.length = 4) (m4 : c + 1 ≤ MC) (m5 : s + 4 ≤ MS) (n6 : r_0 ≠ z) (m7 : c + 1 + 1 ≤ MC) (m8 : s + 4 + 6 ≤ MS) (m9 : c + 1 + 1 + mc ≤ MC) (m10 : s + 4 + 6 + ms ≤ MS) (hc : call 10 [(.ref (z + 1))] (hup (hup (hup (hup h r_0 (.inr (8, (fs1.set 0 (.ref sr_1))))) z (.inl (6, 4, .inr (.inr (.inr (.inr (fun _ => none))))))) r_0 (.inr (8, ((fs1.set 0 (.ref sr_1)).set 1 (.ref z))))) (z + 1) (.inr (2, (ipDef 2)))) (z + 1 + 1) mc ms P) (K : ∀ (o : Option Value) (h2 : HP) (z2 : Nat), P o h2 z2 → ip sc call 73 MC MS Q 31 [some (.ref r_0)] (o.toList ++ [(.ref (z + 1)), (.ref r_0)]) h2 z2 (c + 1 + 1 + mc) (s + 4 + 6 + ms)) : ip sc call 73 MC MS Q 12 [some (.ref r_0)] [(.ref sr_1), (.ref r_0)] h z c s := by
  refine jp_putf (pc2 := 15) rfl rfl e2 (ln_lt l3 (by decide)) ⟨rfl, rfl⟩ ?_
  refine jp_load (pc2 := 16) (n := 0) rfl rfl rfl rfl ?_
  refine jp_con (pc2 := 17) (v := .int 4) rfl rfl rfl ?_
  refine jp_newq (pc2 := 20) (N := 4) rfl rfl (by decide) (by decide) (by decide) m4 m5 ?_
  refine jp_putf (pc2 := 23) rfl rfl (hup_ne n6 hup_eq) (ls_lt (ln_lt l3 (by decide))) ⟨rfl, rfl⟩ ?_
  refine jp_load (pc2 := 24) (n := 0) rfl rfl rfl rfl ?_
  refine jp_new (pc2 := 27) (N := 6) rfl rfl rfl m7 m8 ?_
  refine jp_dup (pc2 := 28) rfl rfl rfl ?_
  exact jp_spec (pc2 := 31) (As := []) (rest := [(.ref (z + 1)), (.ref r_0)]) rfl rfl rfl (Nat.le_of_ble_eq_true rfl) m9 m10 (by decide) hc rfl K
theorem b73_31gs {r_0 : Nat} {sr_1 : Nat} {fs1 : List Value} {q_fs1_0 : Nat} {fs5 : List Value} {P : ipQ} {mc ms : Nat} (e2 : h r_0 = some (.inr (8, fs1))) (l3 : fs1.length = 4) (e4 : fs1[0]? = some (.ref q_fs1_0)) (e6 : h q_fs1_0 = some (.inr (0, fs5))) (n7 : q_fs1_0 ≠ r_0) (m8 : c + mc ≤ MC) (m9 : s + ms ≤ MS) (hc : call 2 [(.ref q_fs1_0), (.int 2)] (hup h r_0 (.inr (8, (fs1.set 2 (.ref sr_1))))) z mc ms P) (K : ∀ (o : Option Value) (h2 : HP) (z2 : Nat), P o h2 z2 → ip sc call 73 MC MS Q 42 [some (.ref r_0)] (o.toList ++ []) h2 z2 (c + mc) (s + ms)) : ip sc call 73 MC MS Q 31 [some (.ref r_0)] [(.ref sr_1), (.ref r_0)] h z c s := by
  refine jp_putf (pc2 := 34) rfl rfl e2 (ln_lt l3 (by decide)) ⟨rfl, rfl⟩ ?_
  refine jp_load (pc2 := 35) (n := 0) rfl rfl rfl rfl ?_
  refine jp_getf (pc2 := 38) rfl rfl hup_eq (gs_ne (by decide) e4) ?_
  refine jp_con (pc2 := 39) (v := .int 2) rfl rfl rfl ?_
  exact jp_virt (pc2 := 42) (As := [(.int 2)]) (rest := []) rfl rfl rfl (Nat.le_of_ble_eq_true rfl) (hup_ne n7 e6) m8 m9 hc rfl K
set_option maxRecDepth 100000 in
theorem b152_18w {r_1 : Nat} {r_2 : Nat} {x_3 : Int32}  (K1 : ((Int32.ofNat sc.2.1) - 7) < x_3 → ip sc call 152 MC MS Q 548 [some (.ref sc.1), some (.ref r_1), some (.ref r_2), some (.int x_3)] [] h z c s) (K2 : ¬ (((Int32.ofNat sc.2.1) - 7) < x_3) → ip sc call 152 MC MS Q 27 [some (.ref sc.1), some (.ref r_1), some (.ref r_2), some (.int x_3)] [] h z c s) : ip sc call 152 MC MS Q 18 [some (.ref sc.1), some (.ref r_1), some (.ref r_2), some (.int x_3)] [] h z c s := by
  refine jp_load (pc2 := 19) (n := 3) rfl rfl rfl rfl ?_
  refine jp_load (pc2 := 20) (n := 0) rfl rfl rfl rfl ?_
  refine jp_slen (pc2 := 21) rfl rfl ?_
  refine jp_con (pc2 := 23) (v := .int 7) rfl rfl rfl ?_
  refine jp_bin (pc2 := 24) (v := (Int32.ofNat sc.2.1) - 7) rfl rfl rfl ?_
  exact jp_icmp (pc2 := 27) rfl rfl K1 K2
set_option maxRecDepth 100000 in
theorem b152_27w {r_1 : Nat} {r_2 : Nat} {x_3 : Int32} {tgt : Nat} (b1 : vp_in x_3 sc.2.1) (t2 : ipTab 33 509 0 15 #[79, 102, 125, 148, 181, 224, 247, 322, 335, 358, 391, 404, 437, 450, 463, 486] ((sc.2.2 x_3.toNatClampNeg) &&& 15) = some tgt) (K : ip sc call 152 MC MS Q tgt [some (.ref sc.1), some (.ref r_1), some (.ref r_2), some (.int x_3)] [] h z c s) : ip sc call 152 MC MS Q 27 [some (.ref sc.1), some (.ref r_1), some (.ref r_2), some (.int x_3)] [] h z c s := by
  refine jp_load (pc2 := 28) (n := 0) rfl rfl rfl rfl ?_
  refine jp_load (pc2 := 29) (n := 3) rfl rfl rfl rfl ?_
  refine jp_sald (pc2 := 30) rfl rfl b1 ?_
  refine jp_con (pc2 := 32) (v := .int 15) rfl rfl rfl ?_
  refine jp_bin (pc2 := 33) (v := (sc.2.2 x_3.toNatClampNeg) &&& 15) rfl rfl rfl ?_
  exact ip_tab rfl t2 K
set_option maxRecDepth 100000 in
theorem b152_112gw {r_1 : Nat} {r_2 : Nat} {x_3 : Int32} {fs2 : List Value} {P : ipQ} {mc ms : Nat} (b1 : vp_in (x_3 + 1) sc.2.1) (e3 : h r_1 = some (.inr (8, fs2))) (m4 : c + mc ≤ MC) (m5 : s + ms ≤ MS) (hc : call 74 [(.ref r_1), (.int (sc.2.2 (x_3 + 1).toNatClampNeg))] h z mc ms P) (K : ∀ (o : Option Value) (h2 : HP) (z2 : Nat), P o h2 z2 → ip sc call 152 MC MS Q 121 [some (.ref sc.1), some (.ref r_1), some (.ref r_2), some (.int x_3)] (o.toList ++ []) h2 z2 (c + mc) (s + ms)) : ip sc call 152 MC MS Q 112 [some (.ref sc.1), some (.ref r_1), some (.ref r_2), some (.int x_3)] [] h z c s := by
  refine jp_load (pc2 := 113) (n := 1) rfl rfl rfl rfl ?_
  refine jp_load (pc2 := 114) (n := 0) rfl rfl rfl rfl ?_
  refine jp_load (pc2 := 115) (n := 3) rfl rfl rfl rfl ?_
  refine jp_con (pc2 := 116) (v := .int 1) rfl rfl rfl ?_
  refine jp_bin (pc2 := 117) (v := x_3 + 1) rfl rfl rfl ?_
  refine jp_sald (pc2 := 118) rfl rfl b1 ?_
  exact jp_virt (pc2 := 121) (As := [(.int (sc.2.2 (x_3 + 1).toNatClampNeg))]) (rest := []) rfl rfl rfl (Nat.le_of_ble_eq_true rfl) e3 m4 m5 hc rfl K
set_option maxRecDepth 100000 in
theorem b152_121gw {r_1 : Nat} {r_2 : Nat} {x_3 : Int32} {sx_0 : Int32} {fs2 : List Value} {P : ipQ} {mc ms : Nat} (b1 : vp_in (x_3 + 1) sc.2.1) (e3 : h r_2 = some (.inr (9, fs2))) (m4 : c + mc ≤ MC) (m5 : s + ms ≤ MS) (hc : call 96 [(.ref r_2), (.int (sc.2.2 (x_3 + 1).toNatClampNeg))] h z mc ms P) (K : ∀ (o : Option Value) (h2 : HP) (z2 : Nat), P o h2 z2 → ip sc call 152 MC MS Q 130 [some (.ref sc.1), some (.ref r_1), some (.ref r_2), some (.int x_3)] (o.toList ++ [(.int sx_0)]) h2 z2 (c + mc) (s + ms)) : ip sc call 152 MC MS Q 121 [some (.ref sc.1), some (.ref r_1), some (.ref r_2), some (.int x_3)] [(.int sx_0)] h z c s := by
  refine jp_load (pc2 := 122) (n := 2) rfl rfl rfl rfl ?_
  refine jp_load (pc2 := 123) (n := 0) rfl rfl rfl rfl ?_
  refine jp_load (pc2 := 124) (n := 3) rfl rfl rfl rfl ?_
  refine jp_con (pc2 := 125) (v := .int 1) rfl rfl rfl ?_
  refine jp_bin (pc2 := 126) (v := x_3 + 1) rfl rfl rfl ?_
  refine jp_sald (pc2 := 127) rfl rfl b1 ?_
  exact jp_virt (pc2 := 130) (As := [(.int (sc.2.2 (x_3 + 1).toNatClampNeg))]) (rest := [(.int sx_0)]) rfl rfl rfl (Nat.le_of_ble_eq_true rfl) e3 m4 m5 hc rfl K
set_option maxRecDepth 100000 in
theorem b152_130w {r_1 : Nat} {r_2 : Nat} {x_3 : Int32} {sx_0 : Int32} {sx_1 : Int32}  (K1 : sx_0 = sx_1 → ip sc call 152 MC MS Q 542 [some (.ref sc.1), some (.ref r_1), some (.ref r_2), some (.int x_3)] [] h z c s) (K2 : ¬ (sx_0 = sx_1) → ip sc call 152 MC MS Q 133 [some (.ref sc.1), some (.ref r_1), some (.ref r_2), some (.int x_3)] [] h z c s) : ip sc call 152 MC MS Q 130 [some (.ref sc.1), some (.ref r_1), some (.ref r_2), some (.int x_3)] [(.int sx_1), (.int sx_0)] h z c s := by
  exact jp_icmp (pc2 := 133) rfl rfl K1 K2
set_option maxRecDepth 100000 in
theorem b152_133w {o_0 : Option Value} {o_1 : Option Value} {o_2 : Option Value} {o_3 : Option Value} (q1 : Q (some (.int 0)) h z)  : ip sc call 152 MC MS Q 133 [o_0, o_1, o_2, o_3] [] h z c s := by
  refine jp_con (pc2 := 134) (v := .int 0) rfl rfl rfl ?_
  exact ip_iret (st := []) rfl rfl rfl q1
set_option maxRecDepth 100000 in
theorem b152_135gw {r_1 : Nat} {r_2 : Nat} {x_3 : Int32} {fs2 : List Value} {P : ipQ} {mc ms : Nat} (b1 : vp_in (x_3 + 1) sc.2.1) (e3 : h r_1 = some (.inr (8, fs2))) (m4 : c + mc ≤ MC) (m5 : s + ms ≤ MS) (hc : call 75 [(.ref r_1), (.int (sc.2.2 (x_3 + 1).toNatClampNeg))] h z mc ms P) (K : ∀ (o : Option Value) (h2 : HP) (z2 : Nat), P o h2 z2 → ip sc call 152 MC MS Q 144 [some (.ref sc.1), some (.ref r_1), some (.ref r_2), some (.int x_3)] (o.toList ++ []) h2 z2 (c + mc) (s + ms)) : ip sc call 152 MC MS Q 135 [some (.ref sc.1), some (.ref r_1), some (.ref r_2), some (.int x_3)] [] h z c s := by
  refine jp_load (pc2 := 136) (n := 1) rfl rfl rfl rfl ?_
  refine jp_load (pc2 := 137) (n := 0) rfl rfl rfl rfl ?_
  refine jp_load (pc2 := 138) (n := 3) rfl rfl rfl rfl ?_
  refine jp_con (pc2 := 139) (v := .int 1) rfl rfl rfl ?_
  refine jp_bin (pc2 := 140) (v := x_3 + 1) rfl rfl rfl ?_
  refine jp_sald (pc2 := 141) rfl rfl b1 ?_
  exact jp_virt (pc2 := 144) (As := [(.int (sc.2.2 (x_3 + 1).toNatClampNeg))]) (rest := []) rfl rfl rfl (Nat.le_of_ble_eq_true rfl) e3 m4 m5 hc rfl K
set_option maxRecDepth 100000 in
theorem b152_144gw {r_1 : Nat} {r_2 : Nat} {x_3 : Int32} {sx_0 : Int32} {fs2 : List Value} {P : ipQ} {mc ms : Nat} (b1 : vp_in (x_3 + 1) sc.2.1) (e3 : h r_2 = some (.inr (9, fs2))) (m4 : c + mc ≤ MC) (m5 : s + ms ≤ MS) (hc : call 117 [(.ref r_2), (.int (sc.2.2 (x_3 + 1).toNatClampNeg))] h z mc ms P) (K : ∀ (o : Option Value) (h2 : HP) (z2 : Nat), P o h2 z2 → ip sc call 152 MC MS Q 153 [some (.ref sc.1), some (.ref r_1), some (.ref r_2), some (.int x_3)] (o.toList ++ [(.int sx_0)]) h2 z2 (c + mc) (s + ms)) : ip sc call 152 MC MS Q 144 [some (.ref sc.1), some (.ref r_1), some (.ref r_2), some (.int x_3)] [(.int sx_0)] h z c s := by
  refine jp_load (pc2 := 145) (n := 2) rfl rfl rfl rfl ?_
  refine jp_load (pc2 := 146) (n := 0) rfl rfl rfl rfl ?_
  refine jp_load (pc2 := 147) (n := 3) rfl rfl rfl rfl ?_
  refine jp_con (pc2 := 148) (v := .int 1) rfl rfl rfl ?_
  refine jp_bin (pc2 := 149) (v := x_3 + 1) rfl rfl rfl ?_
  refine jp_sald (pc2 := 150) rfl rfl b1 ?_
  exact jp_virt (pc2 := 153) (As := [(.int (sc.2.2 (x_3 + 1).toNatClampNeg))]) (rest := [(.int sx_0)]) rfl rfl rfl (Nat.le_of_ble_eq_true rfl) e3 m4 m5 hc rfl K
set_option maxRecDepth 100000 in
theorem b152_153w {r_1 : Nat} {r_2 : Nat} {x_3 : Int32} {sx_0 : Int32} {sx_1 : Int32}  (K1 : sx_0 = sx_1 → ip sc call 152 MC MS Q 542 [some (.ref sc.1), some (.ref r_1), some (.ref r_2), some (.int x_3)] [] h z c s) (K2 : ¬ (sx_0 = sx_1) → ip sc call 152 MC MS Q 156 [some (.ref sc.1), some (.ref r_1), some (.ref r_2), some (.int x_3)] [] h z c s) : ip sc call 152 MC MS Q 153 [some (.ref sc.1), some (.ref r_1), some (.ref r_2), some (.int x_3)] [(.int sx_1), (.int sx_0)] h z c s := by
  exact jp_icmp (pc2 := 156) rfl rfl K1 K2
set_option maxRecDepth 100000 in
theorem b152_156w {o_0 : Option Value} {o_1 : Option Value} {o_2 : Option Value} {o_3 : Option Value} (q1 : Q (some (.int 0)) h z)  : ip sc call 152 MC MS Q 156 [o_0, o_1, o_2, o_3] [] h z c s := by
  refine jp_con (pc2 := 157) (v := .int 0) rfl rfl rfl ?_
  exact ip_iret (st := []) rfl rfl rfl q1
set_option maxRecDepth 100000 in
theorem b152_158gw {r_1 : Nat} {r_2 : Nat} {x_3 : Int32} {fs2 : List Value} {P : ipQ} {mc ms : Nat} (b1 : vp_in (x_3 + 1) sc.2.1) (e3 : h r_1 = some (.inr (8, fs2))) (m4 : c + mc ≤ MC) (m5 : s + ms ≤ MS) (hc : call 76 [(.ref r_1), (.int (sc.2.2 (x_3 + 1).toNatClampNeg))] h z mc ms P) (K : ∀ (o : Option Value) (h2 : HP) (z2 : Nat), P o h2 z2 → ip sc call 152 MC MS Q 167 [some (.ref sc.1), some (.ref r_1), some (.ref r_2), some (.int x_3)] (o.toList ++ []) h2 z2 (c + mc) (s + ms)) : ip sc call 152 MC MS Q 158 [some (.ref sc.1), some (.ref r_1), some (.ref r_2), some (.int x_3)] [] h z c s := by
  refine jp_load (pc2 := 159) (n := 1) rfl rfl rfl rfl ?_
  refine jp_load (pc2 := 160) (n := 0) rfl rfl rfl rfl ?_
  refine jp_load (pc2 := 161) (n := 3) rfl rfl rfl rfl ?_
  refine jp_con (pc2 := 162) (v := .int 1) rfl rfl rfl ?_
  refine jp_bin (pc2 := 163) (v := x_3 + 1) rfl rfl rfl ?_
  refine jp_sald (pc2 := 164) rfl rfl b1 ?_
  exact jp_virt (pc2 := 167) (As := [(.int (sc.2.2 (x_3 + 1).toNatClampNeg))]) (rest := []) rfl rfl rfl (Nat.le_of_ble_eq_true rfl) e3 m4 m5 hc rfl K
set_option maxRecDepth 100000 in
theorem b152_167gw {r_1 : Nat} {r_2 : Nat} {x_3 : Int32} {sx_0 : Int32} {fs2 : List Value} {P : ipQ} {mc ms : Nat} (b1 : vp_in (x_3 + 1) sc.2.1) (e3 : h r_2 = some (.inr (9, fs2))) (m4 : c + mc ≤ MC) (m5 : s + ms ≤ MS) (hc : call 124 [(.ref r_2), (.int (sc.2.2 (x_3 + 1).toNatClampNeg))] h z mc ms P) (K : ∀ (o : Option Value) (h2 : HP) (z2 : Nat), P o h2 z2 → ip sc call 152 MC MS Q 176 [some (.ref sc.1), some (.ref r_1), some (.ref r_2), some (.int x_3)] (o.toList ++ [(.int sx_0)]) h2 z2 (c + mc) (s + ms)) : ip sc call 152 MC MS Q 167 [some (.ref sc.1), some (.ref r_1), some (.ref r_2), some (.int x_3)] [(.int sx_0)] h z c s := by
  refine jp_load (pc2 := 168) (n := 2) rfl rfl rfl rfl ?_
  refine jp_load (pc2 := 169) (n := 0) rfl rfl rfl rfl ?_
  refine jp_load (pc2 := 170) (n := 3) rfl rfl rfl rfl ?_
  refine jp_con (pc2 := 171) (v := .int 1) rfl rfl rfl ?_
  refine jp_bin (pc2 := 172) (v := x_3 + 1) rfl rfl rfl ?_
  refine jp_sald (pc2 := 173) rfl rfl b1 ?_
  exact jp_virt (pc2 := 176) (As := [(.int (sc.2.2 (x_3 + 1).toNatClampNeg))]) (rest := [(.int sx_0)]) rfl rfl rfl (Nat.le_of_ble_eq_true rfl) e3 m4 m5 hc rfl K
set_option maxRecDepth 100000 in
theorem b152_176w {r_1 : Nat} {r_2 : Nat} {x_3 : Int32} {sx_0 : Int32} {sx_1 : Int32}  (K1 : sx_0 = sx_1 → ip sc call 152 MC MS Q 542 [some (.ref sc.1), some (.ref r_1), some (.ref r_2), some (.int x_3)] [] h z c s) (K2 : ¬ (sx_0 = sx_1) → ip sc call 152 MC MS Q 179 [some (.ref sc.1), some (.ref r_1), some (.ref r_2), some (.int x_3)] [] h z c s) : ip sc call 152 MC MS Q 176 [some (.ref sc.1), some (.ref r_1), some (.ref r_2), some (.int x_3)] [(.int sx_1), (.int sx_0)] h z c s := by
  exact jp_icmp (pc2 := 179) rfl rfl K1 K2
set_option maxRecDepth 100000 in
theorem b152_179w {o_0 : Option Value} {o_1 : Option Value} {o_2 : Option Value} {o_3 : Option Value} (q1 : Q (some (.int 0)) h z)  : ip sc call 152 MC MS Q 179 [o_0, o_1, o_2, o_3] [] h z c s := by
  refine jp_con (pc2 := 180) (v := .int 0) rfl rfl rfl ?_
  exact ip_iret (st := []) rfl rfl rfl q1
set_option maxRecDepth 100000 in
theorem b152_181gw {r_1 : Nat} {r_2 : Nat} {x_3 : Int32} {fs3 : List Value} {P : ipQ} {mc ms : Nat} (b1 : vp_in (x_3 + 1) sc.2.1) (b2 : vp_in (x_3 + 2) sc.2.1) (e4 : h r_1 = some (.inr (8, fs3))) (m5 : c + mc ≤ MC) (m6 : s + ms ≤ MS) (hc : call 77 [(.ref r_1), (.int (sc.2.2 (x_3 + 1).toNatClampNeg)), (.int (sc.2.2 (x_3 + 2).toNatClampNeg))] h z mc ms P) (K : ∀ (o : Option Value) (h2 : HP) (z2 : Nat), P o h2 z2 → ip sc call 152 MC MS Q 195 [some (.ref sc.1), some (.ref r_1), some (.ref r_2), some (.int x_3)] (o.toList ++ []) h2 z2 (c + mc) (s + ms)) : ip sc call 152 MC MS Q 181 [some (.ref sc.1), some (.ref r_1), some (.ref r_2), some (.int x_3)] [] h z c s := by
  refine jp_load (pc2 := 182) (n := 1) rfl rfl rfl rfl ?_
  refine jp_load (pc2 := 183) (n := 0) rfl rfl rfl rfl ?_
  refine jp_load (pc2 := 184) (n := 3) rfl rfl rfl rfl ?_
  refine jp_con (pc2 := 185) (v := .int 1) rfl rfl rfl ?_
  refine jp_bin (pc2 := 186) (v := x_3 + 1) rfl rfl rfl ?_
  refine jp_sald (pc2 := 187) rfl rfl b1 ?_
  refine jp_load (pc2 := 188) (n := 0) rfl rfl rfl rfl ?_
  refine jp_load (pc2 := 189) (n := 3) rfl rfl rfl rfl ?_
  refine jp_con (pc2 := 190) (v := .int 2) rfl rfl rfl ?_
  refine jp_bin (pc2 := 191) (v := x_3 + 2) rfl rfl rfl ?_
  refine jp_sald (pc2 := 192) rfl rfl b2 ?_
  exact jp_virt (pc2 := 195) (As := [(.int (sc.2.2 (x_3 + 1).toNatClampNeg)), (.int (sc.2.2 (x_3 + 2).toNatClampNeg))]) (rest := []) rfl rfl rfl (Nat.le_of_ble_eq_true rfl) e4 m5 m6 hc rfl K
set_option maxRecDepth 100000 in
theorem b152_195gw {r_1 : Nat} {r_2 : Nat} {x_3 : Int32} {sx_0 : Int32} {fs3 : List Value} {P : ipQ} {mc ms : Nat} (b1 : vp_in (x_3 + 1) sc.2.1) (b2 : vp_in (x_3 + 2) sc.2.1) (e4 : h r_2 = some (.inr (9, fs3))) (m5 : c + mc ≤ MC) (m6 : s + ms ≤ MS) (hc : call 125 [(.ref r_2), (.int (sc.2.2 (x_3 + 1).toNatClampNeg)), (.int (sc.2.2 (x_3 + 2).toNatClampNeg))] h z mc ms P) (K : ∀ (o : Option Value) (h2 : HP) (z2 : Nat), P o h2 z2 → ip sc call 152 MC MS Q 209 [some (.ref sc.1), some (.ref r_1), some (.ref r_2), some (.int x_3)] (o.toList ++ [(.int sx_0)]) h2 z2 (c + mc) (s + ms)) : ip sc call 152 MC MS Q 195 [some (.ref sc.1), some (.ref r_1), some (.ref r_2), some (.int x_3)] [(.int sx_0)] h z c s := by
  refine jp_load (pc2 := 196) (n := 2) rfl rfl rfl rfl ?_
  refine jp_load (pc2 := 197) (n := 0) rfl rfl rfl rfl ?_
  refine jp_load (pc2 := 198) (n := 3) rfl rfl rfl rfl ?_
  refine jp_con (pc2 := 199) (v := .int 1) rfl rfl rfl ?_
  refine jp_bin (pc2 := 200) (v := x_3 + 1) rfl rfl rfl ?_
  refine jp_sald (pc2 := 201) rfl rfl b1 ?_
  refine jp_load (pc2 := 202) (n := 0) rfl rfl rfl rfl ?_
  refine jp_load (pc2 := 203) (n := 3) rfl rfl rfl rfl ?_
  refine jp_con (pc2 := 204) (v := .int 2) rfl rfl rfl ?_
  refine jp_bin (pc2 := 205) (v := x_3 + 2) rfl rfl rfl ?_
  refine jp_sald (pc2 := 206) rfl rfl b2 ?_
  exact jp_virt (pc2 := 209) (As := [(.int (sc.2.2 (x_3 + 1).toNatClampNeg)), (.int (sc.2.2 (x_3 + 2).toNatClampNeg))]) (rest := [(.int sx_0)]) rfl rfl rfl (Nat.le_of_ble_eq_true rfl) e4 m5 m6 hc rfl K
set_option maxRecDepth 100000 in
theorem b152_209w {r_1 : Nat} {r_2 : Nat} {x_3 : Int32} {sx_0 : Int32} {sx_1 : Int32}  (K1 : sx_0 = sx_1 → ip sc call 152 MC MS Q 542 [some (.ref sc.1), some (.ref r_1), some (.ref r_2), some (.int x_3)] [] h z c s) (K2 : ¬ (sx_0 = sx_1) → ip sc call 152 MC MS Q 212 [some (.ref sc.1), some (.ref r_1), some (.ref r_2), some (.int x_3)] [] h z c s) : ip sc call 152 MC MS Q 209 [some (.ref sc.1), some (.ref r_1), some (.ref r_2), some (.int x_3)] [(.int sx_1), (.int sx_0)] h z c s := by
  exact jp_icmp (pc2 := 212) rfl rfl K1 K2
set_option maxRecDepth 100000 in
theorem b152_212w {o_0 : Option Value} {o_1 : Option Value} {o_2 : Option Value} {o_3 : Option Value} (q1 : Q (some (.int 0)) h z)  : ip sc call 152 MC MS Q 212 [o_0, o_1, o_2, o_3] [] h z c s := by
  refine jp_con (pc2 := 213) (v := .int 0) rfl rfl rfl ?_
  exact ip_iret (st := []) rfl rfl rfl q1
set_option maxRecDepth 100000 in
theorem b152_214gw {r_1 : Nat} {r_2 : Nat} {x_3 : Int32} {fs4 : List Value} {P : ipQ} {mc ms : Nat} (b1 : vp_in (x_3 + 1) sc.2.1) (b2 : vp_in (x_3 + 2) sc.2.1) (b3 : vp_in (x_3 + 3) sc.2.1) (e5 : h r_1 = some (.inr (8, fs4))) (m6 : c + mc ≤ MC) (m7 : s + ms ≤ MS) (hc : call 78 [(.ref r_1), (.int (sc.2.2 (x_3 + 1).toNatClampNeg)), (.int (sc.2.2 (x_3 + 2).toNatClampNeg)), (.int (sc.2.2 (x_3 + 3).toNatClampNeg))] h z mc ms P) (K : ∀ (o : Option Value) (h2 : HP) (z2 : Nat), P o h2 z2 → ip sc call 152 MC MS Q 233 [some (.ref sc.1), some (.ref r_1), some (.ref r_2), some (.int x_3)] (o.toList ++ []) h2 z2 (c + mc) (s + ms)) : ip sc call 152 MC MS Q 214 [some (.ref sc.1), some (.ref r_1), some (.ref r_2), some (.int x_3)] [] h z c s := by
  refine jp_load (pc2 := 215) (n := 1) rfl rfl rfl rfl ?_
  refine jp_load (pc2 := 216) (n := 0) rfl rfl rfl rfl ?_
  refine jp_load (pc2 := 217) (n := 3) rfl rfl rfl rfl ?_
  refine jp_con (pc2 := 218) (v := .int 1) rfl rfl rfl ?_
  refine jp_bin (pc2 := 219) (v := x_3 + 1) rfl rfl rfl ?_
  refine jp_sald (pc2 := 220) rfl rfl b1 ?_
  refine jp_load (pc2 := 221) (n := 0) rfl rfl rfl rfl ?_
  refine jp_load (pc2 := 222) (n := 3) rfl rfl rfl rfl ?_
  refine jp_con (pc2 := 223) (v := .int 2) rfl rfl rfl ?_
  refine jp_bin (pc2 := 224) (v := x_3 + 2) rfl rfl rfl ?_
  refine jp_sald (pc2 := 225) rfl rfl b2 ?_
  refine jp_load (pc2 := 226) (n := 0) rfl rfl rfl rfl ?_
  refine jp_load (pc2 := 227) (n := 3) rfl rfl rfl rfl ?_
  refine jp_con (pc2 := 228) (v := .int 3) rfl rfl rfl ?_
  refine jp_bin (pc2 := 229) (v := x_3 + 3) rfl rfl rfl ?_
  refine jp_sald (pc2 := 230) rfl rfl b3 ?_
  exact jp_virt (pc2 := 233) (As := [(.int (sc.2.2 (x_3 + 1).toNatClampNeg)), (.int (sc.2.2 (x_3 + 2).toNatClampNeg)), (.int (sc.2.2 (x_3 + 3).toNatClampNeg))]) (rest := []) rfl rfl rfl (Nat.le_of_ble_eq_true rfl) e5 m6 m7 hc rfl K
set_option maxRecDepth 100000 in
theorem b152_233gw {r_1 : Nat} {r_2 : Nat} {x_3 : Int32} {sx_0 : Int32} {fs4 : List Value} {P : ipQ} {mc ms : Nat} (b1 : vp_in (x_3 + 1) sc.2.1) (b2 : vp_in (x_3 + 2) sc.2.1) (b3 : vp_in (x_3 + 3) sc.2.1) (e5 : h r_2 = some (.inr (9, fs4))) (m6 : c + mc ≤ MC) (m7 : s + ms ≤ MS) (hc : call 126 [(.ref r_2), (.int (sc.2.2 (x_3 + 1).toNatClampNeg)), (.int (sc.2.2 (x_3 + 2).toNatClampNeg)), (.int (sc.2.2 (x_3 + 3).toNatClampNeg))] h z mc ms P) (K : ∀ (o : Option Value) (h2 : HP) (z2 : Nat), P o h2 z2 → ip sc call 152 MC MS Q 252 [some (.ref sc.1), some (.ref r_1), some (.ref r_2), some (.int x_3)] (o.toList ++ [(.int sx_0)]) h2 z2 (c + mc) (s + ms)) : ip sc call 152 MC MS Q 233 [some (.ref sc.1), some (.ref r_1), some (.ref r_2), some (.int x_3)] [(.int sx_0)] h z c s := by
  refine jp_load (pc2 := 234) (n := 2) rfl rfl rfl rfl ?_
  refine jp_load (pc2 := 235) (n := 0) rfl rfl rfl rfl ?_
  refine jp_load (pc2 := 236) (n := 3) rfl rfl rfl rfl ?_
  refine jp_con (pc2 := 237) (v := .int 1) rfl rfl rfl ?_
  refine jp_bin (pc2 := 238) (v := x_3 + 1) rfl rfl rfl ?_
  refine jp_sald (pc2 := 239) rfl rfl b1 ?_
  refine jp_load (pc2 := 240) (n := 0) rfl rfl rfl rfl ?_
  refine jp_load (pc2 := 241) (n := 3) rfl rfl rfl rfl ?_
  refine jp_con (pc2 := 242) (v := .int 2) rfl rfl rfl ?_
  refine jp_bin (pc2 := 243) (v := x_3 + 2) rfl rfl rfl ?_
  refine jp_sald (pc2 := 244) rfl rfl b2 ?_
  refine jp_load (pc2 := 245) (n := 0) rfl rfl rfl rfl ?_
  refine jp_load (pc2 := 246) (n := 3) rfl rfl rfl rfl ?_
  refine jp_con (pc2 := 247) (v := .int 3) rfl rfl rfl ?_
  refine jp_bin (pc2 := 248) (v := x_3 + 3) rfl rfl rfl ?_
  refine jp_sald (pc2 := 249) rfl rfl b3 ?_
  exact jp_virt (pc2 := 252) (As := [(.int (sc.2.2 (x_3 + 1).toNatClampNeg)), (.int (sc.2.2 (x_3 + 2).toNatClampNeg)), (.int (sc.2.2 (x_3 + 3).toNatClampNeg))]) (rest := [(.int sx_0)]) rfl rfl rfl (Nat.le_of_ble_eq_true rfl) e5 m6 m7 hc rfl K
set_option maxRecDepth 100000 in
theorem b152_252w {r_1 : Nat} {r_2 : Nat} {x_3 : Int32} {sx_0 : Int32} {sx_1 : Int32}  (K1 : sx_0 = sx_1 → ip sc call 152 MC MS Q 542 [some (.ref sc.1), some (.ref r_1), some (.ref r_2), some (.int x_3)] [] h z c s) (K2 : ¬ (sx_0 = sx_1) → ip sc call 152 MC MS Q 255 [some (.ref sc.1), some (.ref r_1), some (.ref r_2), some (.int x_3)] [] h z c s) : ip sc call 152 MC MS Q 252 [some (.ref sc.1), some (.ref r_1), some (.ref r_2), some (.int x_3)] [(.int sx_1), (.int sx_0)] h z c s := by
  exact jp_icmp (pc2 := 255) rfl rfl K1 K2
set_option maxRecDepth 100000 in
theorem b152_255w {o_0 : Option Value} {o_1 : Option Value} {o_2 : Option Value} {o_3 : Option Value} (q1 : Q (some (.int 0)) h z)  : ip sc call 152 MC MS Q 255 [o_0, o_1, o_2, o_3] [] h z c s := by
  refine jp_con (pc2 := 256) (v := .int 0) rfl rfl rfl ?_
  exact ip_iret (st := []) rfl rfl rfl q1
set_option maxRecDepth 100000 in
theorem b152_257gw {r_1 : Nat} {r_2 : Nat} {x_3 : Int32} {fs2 : List Value} {P : ipQ} {mc ms : Nat} (b1 : vp_in (x_3 + 1) sc.2.1) (e3 : h r_1 = some (.inr (8, fs2))) (m4 : c + mc ≤ MC) (m5 : s + ms ≤ MS) (hc : call 79 [(.ref r_1), (.int (sc.2.2 (x_3 + 1).toNatClampNeg))] h z mc ms P) (K : ∀ (o : Option Value) (h2 : HP) (z2 : Nat), P o h2 z2 → ip sc call 152 MC MS Q 266 [some (.ref sc.1), some (.ref r_1), some (.ref r_2), some (.int x_3)] (o.toList ++ []) h2 z2 (c + mc) (s + ms)) : ip sc call 152 MC MS Q 257 [some (.ref sc.1), some (.ref r_1), some (.ref r_2), some (.int x_3)] [] h z c s := by
  refine jp_load (pc2 := 258) (n := 1) rfl rfl rfl rfl ?_
  refine jp_load (pc2 := 259) (n := 0) rfl rfl rfl rfl ?_
  refine jp_load (pc2 := 260) (n := 3) rfl rfl rfl rfl ?_
  refine jp_con (pc2 := 261) (v := .int 1) rfl rfl rfl ?_
  refine jp_bin (pc2 := 262) (v := x_3 + 1) rfl rfl rfl ?_
  refine jp_sald (pc2 := 263) rfl rfl b1 ?_
  exact jp_virt (pc2 := 266) (As := [(.int (sc.2.2 (x_3 + 1).toNatClampNeg))]) (rest := []) rfl rfl rfl (Nat.le_of_ble_eq_true rfl) e3 m4 m5 hc rfl K
set_option maxRecDepth 100000 in
theorem b152_266gw {r_1 : Nat} {r_2 : Nat} {x_3 : Int32} {sx_0 : Int32} {fs2 : List Value} {P : ipQ} {mc ms : Nat} (b1 : vp_in (x_3 + 1) sc.2.1) (e3 : h r_2 = some (.inr (9, fs2))) (m4 : c + mc ≤ MC) (m5 : s + ms ≤ MS) (hc : call 127 [(.ref r_2), (.int (sc.2.2 (x_3 + 1).toNatClampNeg))] h z mc ms P) (K : ∀ (o : Option Value) (h2 : HP) (z2 : Nat), P o h2 z2 → ip sc call 152 MC MS Q 275 [some (.ref sc.1), some (.ref r_1), some (.ref r_2), some (.int x_3)] (o.toList ++ [(.int sx_0)]) h2 z2 (c + mc) (s + ms)) : ip sc call 152 MC MS Q 266 [some (.ref sc.1), some (.ref r_1), some (.ref r_2), some (.int x_3)] [(.int sx_0)] h z c s := by
  refine jp_load (pc2 := 267) (n := 2) rfl rfl rfl rfl ?_
  refine jp_load (pc2 := 268) (n := 0) rfl rfl rfl rfl ?_
  refine jp_load (pc2 := 269) (n := 3) rfl rfl rfl rfl ?_
  refine jp_con (pc2 := 270) (v := .int 1) rfl rfl rfl ?_
  refine jp_bin (pc2 := 271) (v := x_3 + 1) rfl rfl rfl ?_
  refine jp_sald (pc2 := 272) rfl rfl b1 ?_
  exact jp_virt (pc2 := 275) (As := [(.int (sc.2.2 (x_3 + 1).toNatClampNeg))]) (rest := [(.int sx_0)]) rfl rfl rfl (Nat.le_of_ble_eq_true rfl) e3 m4 m5 hc rfl K
set_option maxRecDepth 100000 in
theorem b152_275w {r_1 : Nat} {r_2 : Nat} {x_3 : Int32} {sx_0 : Int32} {sx_1 : Int32}  (K1 : sx_0 = sx_1 → ip sc call 152 MC MS Q 542 [some (.ref sc.1), some (.ref r_1), some (.ref r_2), some (.int x_3)] [] h z c s) (K2 : ¬ (sx_0 = sx_1) → ip sc call 152 MC MS Q 278 [some (.ref sc.1), some (.ref r_1), some (.ref r_2), some (.int x_3)] [] h z c s) : ip sc call 152 MC MS Q 275 [some (.ref sc.1), some (.ref r_1), some (.ref r_2), some (.int x_3)] [(.int sx_1), (.int sx_0)] h z c s := by
  exact jp_icmp (pc2 := 278) rfl rfl K1 K2
set_option maxRecDepth 100000 in
theorem b152_278w {o_0 : Option Value} {o_1 : Option Value} {o_2 : Option Value} {o_3 : Option Value} (q1 : Q (some (.int 0)) h z)  : ip sc call 152 MC MS Q 278 [o_0, o_1, o_2, o_3] [] h z c s := by
  refine jp_con (pc2 := 279) (v := .int 0) rfl rfl rfl ?_
  exact ip_iret (st := []) rfl rfl rfl q1
set_option maxRecDepth 100000 in
theorem b152_280gw {r_1 : Nat} {r_2 : Nat} {x_3 : Int32} {fs7 : List Value} {P : ipQ} {mc ms : Nat} (b1 : vp_in (x_3 + 1) sc.2.1) (b2 : vp_in (x_3 + 2) sc.2.1) (b3 : vp_in (x_3 + 3) sc.2.1) (b4 : vp_in (x_3 + 4) sc.2.1) (b5 : vp_in (x_3 + 5) sc.2.1) (b6 : vp_in (x_3 + 6) sc.2.1) (e8 : h r_1 = some (.inr (8, fs7))) (m9 : c + mc ≤ MC) (m10 : s + ms ≤ MS) (hc : call 80 [(.ref r_1), (.int (sc.2.2 (x_3 + 1).toNatClampNeg)), (.int (sc.2.2 (x_3 + 2).toNatClampNeg)), (.int (sc.2.2 (x_3 + 3).toNatClampNeg)), (.int (sc.2.2 (x_3 + 4).toNatClampNeg)), (.int (sc.2.2 (x_3 + 5).toNatClampNeg)), (.int (sc.2.2 (x_3 + 6).toNatClampNeg))] h z mc ms P) (K : ∀ (o : Option Value) (h2 : HP) (z2 : Nat), P o h2 z2 → ip sc call 152 MC MS Q 315 [some (.ref sc.1), some (.ref r_1), some (.ref r_2), some (.int x_3)] (o.toList ++ []) h2 z2 (c + mc) (s + ms)) : ip sc call 152 MC MS Q 280 [some (.ref sc.1), some (.ref r_1), some (.ref r_2), some (.int x_3)] [] h z c s := by
  refine jp_load (pc2 := 281) (n := 1) rfl rfl rfl rfl ?_
  refine jp_load (pc2 := 282) (n := 0) rfl rfl rfl rfl ?_
  refine jp_load (pc2 := 283) (n := 3) rfl rfl rfl rfl ?_
  refine jp_con (pc2 := 284) (v := .int 1) rfl rfl rfl ?_
  refine jp_bin (pc2 := 285) (v := x_3 + 1) rfl rfl rfl ?_
  refine jp_sald (pc2 := 286) rfl rfl b1 ?_
  refine jp_load (pc2 := 287) (n := 0) rfl rfl rfl rfl ?_
  refine jp_load (pc2 := 288) (n := 3) rfl rfl rfl rfl ?_
  refine jp_con (pc2 := 289) (v := .int 2) rfl rfl rfl ?_
  refine jp_bin (pc2 := 290) (v := x_3 + 2) rfl rfl rfl ?_
  refine jp_sald (pc2 := 291) rfl rfl b2 ?_
  refine jp_load (pc2 := 292) (n := 0) rfl rfl rfl rfl ?_
  refine jp_load (pc2 := 293) (n := 3) rfl rfl rfl rfl ?_
  refine jp_con (pc2 := 294) (v := .int 3) rfl rfl rfl ?_
  refine jp_bin (pc2 := 295) (v := x_3 + 3) rfl rfl rfl ?_
  refine jp_sald (pc2 := 296) rfl rfl b3 ?_
  refine jp_load (pc2 := 297) (n := 0) rfl rfl rfl rfl ?_
  refine jp_load (pc2 := 298) (n := 3) rfl rfl rfl rfl ?_
  refine jp_con (pc2 := 299) (v := .int 4) rfl rfl rfl ?_
  refine jp_bin (pc2 := 300) (v := x_3 + 4) rfl rfl rfl ?_
  refine jp_sald (pc2 := 301) rfl rfl b4 ?_
  refine jp_load (pc2 := 302) (n := 0) rfl rfl rfl rfl ?_
  refine jp_load (pc2 := 303) (n := 3) rfl rfl rfl rfl ?_
  refine jp_con (pc2 := 304) (v := .int 5) rfl rfl rfl ?_
  refine jp_bin (pc2 := 305) (v := x_3 + 5) rfl rfl rfl ?_
  refine jp_sald (pc2 := 306) rfl rfl b5 ?_
  refine jp_load (pc2 := 307) (n := 0) rfl rfl rfl rfl ?_
  refine jp_load (pc2 := 308) (n := 3) rfl rfl rfl rfl ?_
  refine jp_con (pc2 := 310) (v := .int 6) rfl rfl rfl ?_
  refine jp_bin (pc2 := 311) (v := x_3 + 6) rfl rfl rfl ?_
  refine jp_sald (pc2 := 312) rfl rfl b6 ?_
  exact jp_virt (pc2 := 315) (As := [(.int (sc.2.2 (x_3 + 1).toNatClampNeg)), (.int (sc.2.2 (x_3 + 2).toNatClampNeg)), (.int (sc.2.2 (x_3 + 3).toNatClampNeg)), (.int (sc.2.2 (x_3 + 4).toNatClampNeg)), (.int (sc.2.2 (x_3 + 5).toNatClampNeg)), (.int (sc.2.2 (x_3 + 6).toNatClampNeg))]) (rest := []) rfl rfl rfl (Nat.le_of_ble_eq_true rfl) e8 m9 m10 hc rfl K
set_option maxRecDepth 100000 in
theorem b152_315gw {r_1 : Nat} {r_2 : Nat} {x_3 : Int32} {sx_0 : Int32} {fs7 : List Value} {P : ipQ} {mc ms : Nat} (b1 : vp_in (x_3 + 1) sc.2.1) (b2 : vp_in (x_3 + 2) sc.2.1) (b3 : vp_in (x_3 + 3) sc.2.1) (b4 : vp_in (x_3 + 4) sc.2.1) (b5 : vp_in (x_3 + 5) sc.2.1) (b6 : vp_in (x_3 + 6) sc.2.1) (e8 : h r_2 = some (.inr (9, fs7))) (m9 : c + mc ≤ MC) (m10 : s + ms ≤ MS) (hc : call 129 [(.ref r_2), (.int (sc.2.2 (x_3 + 1).toNatClampNeg)), (.int (sc.2.2 (x_3 + 2).toNatClampNeg)), (.int (sc.2.2 (x_3 + 3).toNatClampNeg)), (.int (sc.2.2 (x_3 + 4).toNatClampNeg)), (.int (sc.2.2 (x_3 + 5).toNatClampNeg)), (.int (sc.2.2 (x_3 + 6).toNatClampNeg))] h z mc ms P) (K : ∀ (o : Option Value) (h2 : HP) (z2 : Nat), P o h2 z2 → ip sc call 152 MC MS Q 350 [some (.ref sc.1), some (.ref r_1), some (.ref r_2), some (.int x_3)] (o.toList ++ [(.int sx_0)]) h2 z2 (c + mc) (s + ms)) : ip sc call 152 MC MS Q 315 [some (.ref sc.1), some (.ref r_1), some (.ref r_2), some (.int x_3)] [(.int sx_0)] h z c s := by
  refine jp_load (pc2 := 316) (n := 2) rfl rfl rfl rfl ?_
  refine jp_load (pc2 := 317) (n := 0) rfl rfl rfl rfl ?_
  refine jp_load (pc2 := 318) (n := 3) rfl rfl rfl rfl ?_
  refine jp_con (pc2 := 319) (v := .int 1) rfl rfl rfl ?_
  refine jp_bin (pc2 := 320) (v := x_3 + 1) rfl rfl rfl ?_
  refine jp_sald (pc2 := 321) rfl rfl b1 ?_
  refine jp_load (pc2 := 322) (n := 0) rfl rfl rfl rfl ?_
  refine jp_load (pc2 := 323) (n := 3) rfl rfl rfl rfl ?_
  refine jp_con (pc2 := 324) (v := .int 2) rfl rfl rfl ?_
  refine jp_bin (pc2 := 325) (v := x_3 + 2) rfl rfl rfl ?_
  refine jp_sald (pc2 := 326) rfl rfl b2 ?_
  refine jp_load (pc2 := 327) (n := 0) rfl rfl rfl rfl ?_
  refine jp_load (pc2 := 328) (n := 3) rfl rfl rfl rfl ?_
  refine jp_con (pc2 := 329) (v := .int 3) rfl rfl rfl ?_
  refine jp_bin (pc2 := 330) (v := x_3 + 3) rfl rfl rfl ?_
  refine jp_sald (pc2 := 331) rfl rfl b3 ?_
  refine jp_load (pc2 := 332) (n := 0) rfl rfl rfl rfl ?_
  refine jp_load (pc2 := 333) (n := 3) rfl rfl rfl rfl ?_
  refine jp_con (pc2 := 334) (v := .int 4) rfl rfl rfl ?_
  refine jp_bin (pc2 := 335) (v := x_3 + 4) rfl rfl rfl ?_
  refine jp_sald (pc2 := 336) rfl rfl b4 ?_
  refine jp_load (pc2 := 337) (n := 0) rfl rfl rfl rfl ?_
  refine jp_load (pc2 := 338) (n := 3) rfl rfl rfl rfl ?_
  refine jp_con (pc2 := 339) (v := .int 5) rfl rfl rfl ?_
  refine jp_bin (pc2 := 340) (v := x_3 + 5) rfl rfl rfl ?_
  refine jp_sald (pc2 := 341) rfl rfl b5 ?_
  refine jp_load (pc2 := 342) (n := 0) rfl rfl rfl rfl ?_
  refine jp_load (pc2 := 343) (n := 3) rfl rfl rfl rfl ?_
  refine jp_con (pc2 := 345) (v := .int 6) rfl rfl rfl ?_
  refine jp_bin (pc2 := 346) (v := x_3 + 6) rfl rfl rfl ?_
  refine jp_sald (pc2 := 347) rfl rfl b6 ?_
  exact jp_virt (pc2 := 350) (As := [(.int (sc.2.2 (x_3 + 1).toNatClampNeg)), (.int (sc.2.2 (x_3 + 2).toNatClampNeg)), (.int (sc.2.2 (x_3 + 3).toNatClampNeg)), (.int (sc.2.2 (x_3 + 4).toNatClampNeg)), (.int (sc.2.2 (x_3 + 5).toNatClampNeg)), (.int (sc.2.2 (x_3 + 6).toNatClampNeg))]) (rest := [(.int sx_0)]) rfl rfl rfl (Nat.le_of_ble_eq_true rfl) e8 m9 m10 hc rfl K
set_option maxRecDepth 100000 in
theorem b152_350w {r_1 : Nat} {r_2 : Nat} {x_3 : Int32} {sx_0 : Int32} {sx_1 : Int32}  (K1 : sx_0 = sx_1 → ip sc call 152 MC MS Q 542 [some (.ref sc.1), some (.ref r_1), some (.ref r_2), some (.int x_3)] [] h z c s) (K2 : ¬ (sx_0 = sx_1) → ip sc call 152 MC MS Q 353 [some (.ref sc.1), some (.ref r_1), some (.ref r_2), some (.int x_3)] [] h z c s) : ip sc call 152 MC MS Q 350 [some (.ref sc.1), some (.ref r_1), some (.ref r_2), some (.int x_3)] [(.int sx_1), (.int sx_0)] h z c s := by
  exact jp_icmp (pc2 := 353) rfl rfl K1 K2
set_option maxRecDepth 100000 in
theorem b152_353w {o_0 : Option Value} {o_1 : Option Value} {o_2 : Option Value} {o_3 : Option Value} (q1 : Q (some (.int 0)) h z)  : ip sc call 152 MC MS Q 353 [o_0, o_1, o_2, o_3] [] h z c s := by
  refine jp_con (pc2 := 354) (v := .int 0) rfl rfl rfl ?_
  exact ip_iret (st := []) rfl rfl rfl q1
set_option maxRecDepth 100000 in
theorem b152_355gw {r_1 : Nat} {r_2 : Nat} {x_3 : Int32} {fs1 : List Value} {P : ipQ} {mc ms : Nat} (e2 : h r_1 = some (.inr (8, fs1))) (m3 : c + mc ≤ MC) (m4 : s + ms ≤ MS) (hc : call 81 [(.ref r_1)] h z mc ms P) (K : ∀ (o : Option Value) (h2 : HP) (z2 : Nat), P o h2 z2 → ip sc call 152 MC MS Q 359 [some (.ref sc.1), some (.ref r_1), some (.ref r_2), some (.int x_3)] (o.toList ++ []) h2 z2 (c + mc) (s + ms)) : ip sc call 152 MC MS Q 355 [some (.ref sc.1), some (.ref r_1), some (.ref r_2), some (.int x_3)] [] h z c s := by
  refine jp_load (pc2 := 356) (n := 1) rfl rfl rfl rfl ?_
  exact jp_virt (pc2 := 359) (As := []) (rest := []) rfl rfl rfl (Nat.le_of_ble_eq_true rfl) e2 m3 m4 hc rfl K
set_option maxRecDepth 100000 in
theorem b152_359gw {r_1 : Nat} {r_2 : Nat} {x_3 : Int32} {sx_0 : Int32} {fs1 : List Value} {P : ipQ} {mc ms : Nat} (e2 : h r_2 = some (.inr (9, fs1))) (m3 : c + mc ≤ MC) (m4 : s + ms ≤ MS) (hc : call 130 [(.ref r_2)] h z mc ms P) (K : ∀ (o : Option Value) (h2 : HP) (z2 : Nat), P o h2 z2 → ip sc call 152 MC MS Q 363 [some (.ref sc.1), some (.ref r_1), some (.ref r_2), some (.int x_3)] (o.toList ++ [(.int sx_0)]) h2 z2 (c + mc) (s + ms)) : ip sc call 152 MC MS Q 359 [some (.ref sc.1), some (.ref r_1), some (.ref r_2), some (.int x_3)] [(.int sx_0)] h z c s := by
  refine jp_load (pc2 := 360) (n := 2) rfl rfl rfl rfl ?_
  exact jp_virt (pc2 := 363) (As := []) (rest := [(.int sx_0)]) rfl rfl rfl (Nat.le_of_ble_eq_true rfl) e2 m3 m4 hc rfl K
set_option maxRecDepth 100000 in
theorem b152_363w {r_1 : Nat} {r_2 : Nat} {x_3 : Int32} {sx_0 : Int32} {sx_1 : Int32}  (K1 : sx_0 = sx_1 → ip sc call 152 MC MS Q 542 [some (.ref sc.1), some (.ref r_1), some (.ref r_2), some (.int x_3)] [] h z c s) (K2 : ¬ (sx_0 = sx_1) → ip sc call 152 MC MS Q 366 [some (.ref sc.1), some (.ref r_1), some (.ref r_2), some (.int x_3)] [] h z c s) : ip sc call 152 MC MS Q 363 [some (.ref sc.1), some (.ref r_1), some (.ref r_2), some (.int x_3)] [(.int sx_1), (.int sx_0)] h z c s := by
  exact jp_icmp (pc2 := 366) rfl rfl K1 K2
set_option maxRecDepth 100000 in
theorem b152_366w {o_0 : Option Value} {o_1 : Option Value} {o_2 : Option Value} {o_3 : Option Value} (q1 : Q (some (.int 0)) h z)  : ip sc call 152 MC MS Q 366 [o_0, o_1, o_2, o_3] [] h z c s := by
  refine jp_con (pc2 := 367) (v := .int 0) rfl rfl rfl ?_
  exact ip_iret (st := []) rfl rfl rfl q1
set_option maxRecDepth 100000 in
theorem b152_368gw {r_1 : Nat} {r_2 : Nat} {x_3 : Int32} {fs2 : List Value} {P : ipQ} {mc ms : Nat} (b1 : vp_in (x_3 + 1) sc.2.1) (e3 : h r_1 = some (.inr (8, fs2))) (m4 : c + mc ≤ MC) (m5 : s + ms ≤ MS) (hc : call 82 [(.ref r_1), (.int (sc.2.2 (x_3 + 1).toNatClampNeg))] h z mc ms P) (K : ∀ (o : Option Value) (h2 : HP) (z2 : Nat), P o h2 z2 → ip sc call 152 MC MS Q 377 [some (.ref sc.1), some (.ref r_1), some (.ref r_2), some (.int x_3)] (o.toList ++ []) h2 z2 (c + mc) (s + ms)) : ip sc call 152 MC MS Q 368 [some (.ref sc.1), some (.ref r_1), some (.ref r_2), some (.int x_3)] [] h z c s := by
  refine jp_load (pc2 := 369) (n := 1) rfl rfl rfl rfl ?_
  refine jp_load (pc2 := 370) (n := 0) rfl rfl rfl rfl ?_
  refine jp_load (pc2 := 371) (n := 3) rfl rfl rfl rfl ?_
  refine jp_con (pc2 := 372) (v := .int 1) rfl rfl rfl ?_
  refine jp_bin (pc2 := 373) (v := x_3 + 1) rfl rfl rfl ?_
  refine jp_sald (pc2 := 374) rfl rfl b1 ?_
  exact jp_virt (pc2 := 377) (As := [(.int (sc.2.2 (x_3 + 1).toNatClampNeg))]) (rest := []) rfl rfl rfl (Nat.le_of_ble_eq_true rfl) e3 m4 m5 hc rfl K
set_option maxRecDepth 100000 in
theorem b152_377gw {r_1 : Nat} {r_2 : Nat} {x_3 : Int32} {sx_0 : Int32} {fs2 : List Value} {P : ipQ} {mc ms : Nat} (b1 : vp_in (x_3 + 1) sc.2.1) (e3 : h r_2 = some (.inr (9, fs2))) (m4 : c + mc ≤ MC) (m5 : s + ms ≤ MS) (hc : call 132 [(.ref r_2), (.int (sc.2.2 (x_3 + 1).toNatClampNeg))] h z mc ms P) (K : ∀ (o : Option Value) (h2 : HP) (z2 : Nat), P o h2 z2 → ip sc call 152 MC MS Q 386 [some (.ref sc.1), some (.ref r_1), some (.ref r_2), some (.int x_3)] (o.toList ++ [(.int sx_0)]) h2 z2 (c + mc) (s + ms)) : ip sc call 152 MC MS Q 377 [some (.ref sc.1), some (.ref r_1), some (.ref r_2), some (.int x_3)] [(.int sx_0)] h z c s := by
  refine jp_load (pc2 := 378) (n := 2) rfl rfl rfl rfl ?_
  refine jp_load (pc2 := 379) (n := 0) rfl rfl rfl rfl ?_
  refine jp_load (pc2 := 380) (n := 3) rfl rfl rfl rfl ?_
  refine jp_con (pc2 := 381) (v := .int 1) rfl rfl rfl ?_
  refine jp_bin (pc2 := 382) (v := x_3 + 1) rfl rfl rfl ?_
  refine jp_sald (pc2 := 383) rfl rfl b1 ?_
  exact jp_virt (pc2 := 386) (As := [(.int (sc.2.2 (x_3 + 1).toNatClampNeg))]) (rest := [(.int sx_0)]) rfl rfl rfl (Nat.le_of_ble_eq_true rfl) e3 m4 m5 hc rfl K
set_option maxRecDepth 100000 in
theorem b152_386w {r_1 : Nat} {r_2 : Nat} {x_3 : Int32} {sx_0 : Int32} {sx_1 : Int32}  (K1 : sx_0 = sx_1 → ip sc call 152 MC MS Q 542 [some (.ref sc.1), some (.ref r_1), some (.ref r_2), some (.int x_3)] [] h z c s) (K2 : ¬ (sx_0 = sx_1) → ip sc call 152 MC MS Q 389 [some (.ref sc.1), some (.ref r_1), some (.ref r_2), some (.int x_3)] [] h z c s) : ip sc call 152 MC MS Q 386 [some (.ref sc.1), some (.ref r_1), some (.ref r_2), some (.int x_3)] [(.int sx_1), (.int sx_0)] h z c s := by
  exact jp_icmp (pc2 := 389) rfl rfl K1 K2
set_option maxRecDepth 100000 in
theorem b152_389w {o_0 : Option Value} {o_1 : Option Value} {o_2 : Option Value} {o_3 : Option Value} (q1 : Q (some (.int 0)) h z)  : ip sc call 152 MC MS Q 389 [o_0, o_1, o_2, o_3] [] h z c s := by
  refine jp_con (pc2 := 390) (v := .int 0) rfl rfl rfl ?_
  exact ip_iret (st := []) rfl rfl rfl q1
set_option maxRecDepth 100000 in
theorem b152_391gw {r_1 : Nat} {r_2 : Nat} {x_3 : Int32} {fs3 : List Value} {P : ipQ} {mc ms : Nat} (b1 : vp_in (x_3 + 1) sc.2.1) (b2 : vp_in (x_3 + 2) sc.2.1) (e4 : h r_1 = some (.inr (8, fs3))) (m5 : c + mc ≤ MC) (m6 : s + ms ≤ MS) (hc : call 83 [(.ref r_1), (.int (sc.2.2 (x_3 + 1).toNatClampNeg)), (.int (sc.2.2 (x_3 + 2).toNatClampNeg))] h z mc ms P) (K : ∀ (o : Option Value) (h2 : HP) (z2 : Nat), P o h2 z2 → ip sc call 152 MC MS Q 405 [some (.ref sc.1), some (.ref r_1), some (.ref r_2), some (.int x_3)] (o.toList ++ []) h2 z2 (c + mc) (s + ms)) : ip sc call 152 MC MS Q 391 [some (.ref sc.1), some (.ref r_1), some (.ref r_2), some (.int x_3)] [] h z c s := by
  refine jp_load (pc2 := 392) (n := 1) rfl rfl rfl rfl ?_
  refine jp_load (pc2 := 393) (n := 0) rfl rfl rfl rfl ?_
  refine jp_load (pc2 := 394) (n := 3) rfl rfl rfl rfl ?_
  refine jp_con (pc2 := 395) (v := .int 1) rfl rfl rfl ?_
  refine jp_bin (pc2 := 396) (v := x_3 + 1) rfl rfl rfl ?_
  refine jp_sald (pc2 := 397) rfl rfl b1 ?_
  refine jp_load (pc2 := 398) (n := 0) rfl rfl rfl rfl ?_
  refine jp_load (pc2 := 399) (n := 3) rfl rfl rfl rfl ?_
  refine jp_con (pc2 := 400) (v := .int 2) rfl rfl rfl ?_
  refine jp_bin (pc2 := 401) (v := x_3 + 2) rfl rfl rfl ?_
  refine jp_sald (pc2 := 402) rfl rfl b2 ?_
  exact jp_virt (pc2 := 405) (As := [(.int (sc.2.2 (x_3 + 1).toNatClampNeg)), (.int (sc.2.2 (x_3 + 2).toNatClampNeg))]) (rest := []) rfl rfl rfl (Nat.le_of_ble_eq_true rfl) e4 m5 m6 hc rfl K
set_option maxRecDepth 100000 in
theorem b152_405gw {r_1 : Nat} {r_2 : Nat} {x_3 : Int32} {sx_0 : Int32} {fs3 : List Value} {P : ipQ} {mc ms : Nat} (b1 : vp_in (x_3 + 1) sc.2.1) (b2 : vp_in (x_3 + 2) sc.2.1) (e4 : h r_2 = some (.inr (9, fs3))) (m5 : c + mc ≤ MC) (m6 : s + ms ≤ MS) (hc : call 133 [(.ref r_2), (.int (sc.2.2 (x_3 + 1).toNatClampNeg)), (.int (sc.2.2 (x_3 + 2).toNatClampNeg))] h z mc ms P) (K : ∀ (o : Option Value) (h2 : HP) (z2 : Nat), P o h2 z2 → ip sc call 152 MC MS Q 419 [some (.ref sc.1), some (.ref r_1), some (.ref r_2), some (.int x_3)] (o.toList ++ [(.int sx_0)]) h2 z2 (c + mc) (s + ms)) : ip sc call 152 MC MS Q 405 [some (.ref sc.1), some (.ref r_1), some (.ref r_2), some (.int x_3)] [(.int sx_0)] h z c s := by
  refine jp_load (pc2 := 406) (n := 2) rfl rfl rfl rfl ?_
  refine jp_load (pc2 := 407) (n := 0) rfl rfl rfl rfl ?_
  refine jp_load (pc2 := 408) (n := 3) rfl rfl rfl rfl ?_
  refine jp_con (pc2 := 409) (v := .int 1) rfl rfl rfl ?_
  refine jp_bin (pc2 := 410) (v := x_3 + 1) rfl rfl rfl ?_
  refine jp_sald (pc2 := 411) rfl rfl b1 ?_
  refine jp_load (pc2 := 412) (n := 0) rfl rfl rfl rfl ?_
  refine jp_load (pc2 := 413) (n := 3) rfl rfl rfl rfl ?_
  refine jp_con (pc2 := 414) (v := .int 2) rfl rfl rfl ?_
  refine jp_bin (pc2 := 415) (v := x_3 + 2) rfl rfl rfl ?_
  refine jp_sald (pc2 := 416) rfl rfl b2 ?_
  exact jp_virt (pc2 := 419) (As := [(.int (sc.2.2 (x_3 + 1).toNatClampNeg)), (.int (sc.2.2 (x_3 + 2).toNatClampNeg))]) (rest := [(.int sx_0)]) rfl rfl rfl (Nat.le_of_ble_eq_true rfl) e4 m5 m6 hc rfl K
set_option maxRecDepth 100000 in
theorem b152_419w {r_1 : Nat} {r_2 : Nat} {x_3 : Int32} {sx_0 : Int32} {sx_1 : Int32}  (K1 : sx_0 = sx_1 → ip sc call 152 MC MS Q 542 [some (.ref sc.1), some (.ref r_1), some (.ref r_2), some (.int x_3)] [] h z c s) (K2 : ¬ (sx_0 = sx_1) → ip sc call 152 MC MS Q 422 [some (.ref sc.1), some (.ref r_1), some (.ref r_2), some (.int x_3)] [] h z c s) : ip sc call 152 MC MS Q 419 [some (.ref sc.1), some (.ref r_1), some (.ref r_2), some (.int x_3)] [(.int sx_1), (.int sx_0)] h z c s := by
  exact jp_icmp (pc2 := 422) rfl rfl K1 K2
set_option maxRecDepth 100000 in
theorem b152_422w {o_0 : Option Value} {o_1 : Option Value} {o_2 : Option Value} {o_3 : Option Value} (q1 : Q (some (.int 0)) h z)  : ip sc call 152 MC MS Q 422 [o_0, o_1, o_2, o_3] [] h z c s := by
  refine jp_con (pc2 := 423) (v := .int 0) rfl rfl rfl ?_
  exact ip_iret (st := []) rfl rfl rfl q1
set_option maxRecDepth 100000 in
theorem b152_424gw {r_1 : Nat} {r_2 : Nat} {x_3 : Int32} {fs1 : List Value} {P : ipQ} {mc ms : Nat} (e2 : h r_1 = some (.inr (8, fs1))) (m3 : c + mc ≤ MC) (m4 : s + ms ≤ MS) (hc : call 84 [(.ref r_1)] h z mc ms P) (K : ∀ (o : Option Value) (h2 : HP) (z2 : Nat), P o h2 z2 → ip sc call 152 MC MS Q 428 [some (.ref sc.1), some (.ref r_1), some (.ref r_2), some (.int x_3)] (o.toList ++ []) h2 z2 (c + mc) (s + ms)) : ip sc call 152 MC MS Q 424 [some (.ref sc.1), some (.ref r_1), some (.ref r_2), some (.int x_3)] [] h z c s := by
  refine jp_load (pc2 := 425) (n := 1) rfl rfl rfl rfl ?_
  exact jp_virt (pc2 := 428) (As := []) (rest := []) rfl rfl rfl (Nat.le_of_ble_eq_true rfl) e2 m3 m4 hc rfl K
set_option maxRecDepth 100000 in
theorem b152_428gw {r_1 : Nat} {r_2 : Nat} {x_3 : Int32} {sx_0 : Int32} {fs1 : List Value} {P : ipQ} {mc ms : Nat} (e2 : h r_2 = some (.inr (9, fs1))) (m3 : c + mc ≤ MC) (m4 : s + ms ≤ MS) (hc : call 134 [(.ref r_2)] h z mc ms P) (K : ∀ (o : Option Value) (h2 : HP) (z2 : Nat), P o h2 z2 → ip sc call 152 MC MS Q 432 [some (.ref sc.1), some (.ref r_1), some (.ref r_2), some (.int x_3)] (o.toList ++ [(.int sx_0)]) h2 z2 (c + mc) (s + ms)) : ip sc call 152 MC MS Q 428 [some (.ref sc.1), some (.ref r_1), some (.ref r_2), some (.int x_3)] [(.int sx_0)] h z c s := by
  refine jp_load (pc2 := 429) (n := 2) rfl rfl rfl rfl ?_
  exact jp_virt (pc2 := 432) (As := []) (rest := [(.int sx_0)]) rfl rfl rfl (Nat.le_of_ble_eq_true rfl) e2 m3 m4 hc rfl K
set_option maxRecDepth 100000 in
theorem b152_432w {r_1 : Nat} {r_2 : Nat} {x_3 : Int32} {sx_0 : Int32} {sx_1 : Int32}  (K1 : sx_0 = sx_1 → ip sc call 152 MC MS Q 542 [some (.ref sc.1), some (.ref r_1), some (.ref r_2), some (.int x_3)] [] h z c s) (K2 : ¬ (sx_0 = sx_1) → ip sc call 152 MC MS Q 435 [some (.ref sc.1), some (.ref r_1), some (.ref r_2), some (.int x_3)] [] h z c s) : ip sc call 152 MC MS Q 432 [some (.ref sc.1), some (.ref r_1), some (.ref r_2), some (.int x_3)] [(.int sx_1), (.int sx_0)] h z c s := by
  exact jp_icmp (pc2 := 435) rfl rfl K1 K2
set_option maxRecDepth 100000 in
theorem b152_435w {o_0 : Option Value} {o_1 : Option Value} {o_2 : Option Value} {o_3 : Option Value} (q1 : Q (some (.int 0)) h z)  : ip sc call 152 MC MS Q 435 [o_0, o_1, o_2, o_3] [] h z c s := by
  refine jp_con (pc2 := 436) (v := .int 0) rfl rfl rfl ?_
  exact ip_iret (st := []) rfl rfl rfl q1
set_option maxRecDepth 100000 in
theorem b152_437gw {r_1 : Nat} {r_2 : Nat} {x_3 : Int32} {fs3 : List Value} {P : ipQ} {mc ms : Nat} (b1 : vp_in (x_3 + 1) sc.2.1) (b2 : vp_in (x_3 + 2) sc.2.1) (e4 : h r_1 = some (.inr (8, fs3))) (m5 : c + mc ≤ MC) (m6 : s + ms ≤ MS) (hc : call 85 [(.ref r_1), (.int (sc.2.2 (x_3 + 1).toNatClampNeg)), (.int (sc.2.2 (x_3 + 2).toNatClampNeg))] h z mc ms P) (K : ∀ (o : Option Value) (h2 : HP) (z2 : Nat), P o h2 z2 → ip sc call 152 MC MS Q 451 [some (.ref sc.1), some (.ref r_1), some (.ref r_2), some (.int x_3)] (o.toList ++ []) h2 z2 (c + mc) (s + ms)) : ip sc call 152 MC MS Q 437 [some (.ref sc.1), some (.ref r_1), some (.ref r_2), some (.int x_3)] [] h z c s := by
  refine jp_load (pc2 := 438) (n := 1) rfl rfl rfl rfl ?_
  refine jp_load (pc2 := 439) (n := 0) rfl rfl rfl rfl ?_
  refine jp_load (pc2 := 440) (n := 3) rfl rfl rfl rfl ?_
  refine jp_con (pc2 := 441) (v := .int 1) rfl rfl rfl ?_
  refine jp_bin (pc2 := 442) (v := x_3 + 1) rfl rfl rfl ?_
  refine jp_sald (pc2 := 443) rfl rfl b1 ?_
  refine jp_load (pc2 := 444) (n := 0) rfl rfl rfl rfl ?_
  refine jp_load (pc2 := 445) (n := 3) rfl rfl rfl rfl ?_
  refine jp_con (pc2 := 446) (v := .int 2) rfl rfl rfl ?_
  refine jp_bin (pc2 := 447) (v := x_3 + 2) rfl rfl rfl ?_
  refine jp_sald (pc2 := 448) rfl rfl b2 ?_
  exact jp_virt (pc2 := 451) (As := [(.int (sc.2.2 (x_3 + 1).toNatClampNeg)), (.int (sc.2.2 (x_3 + 2).toNatClampNeg))]) (rest := []) rfl rfl rfl (Nat.le_of_ble_eq_true rfl) e4 m5 m6 hc rfl K
set_option maxRecDepth 100000 in
theorem b152_451gw {r_1 : Nat} {r_2 : Nat} {x_3 : Int32} {sx_0 : Int32} {fs3 : List Value} {P : ipQ} {mc ms : Nat} (b1 : vp_in (x_3 + 1) sc.2.1) (b2 : vp_in (x_3 + 2) sc.2.1) (e4 : h r_2 = some (.inr (9, fs3))) (m5 : c + mc ≤ MC) (m6 : s + ms ≤ MS) (hc : call 135 [(.ref r_2), (.int (sc.2.2 (x_3 + 1).toNatClampNeg)), (.int (sc.2.2 (x_3 + 2).toNatClampNeg))] h z mc ms P) (K : ∀ (o : Option Value) (h2 : HP) (z2 : Nat), P o h2 z2 → ip sc call 152 MC MS Q 465 [some (.ref sc.1), some (.ref r_1), some (.ref r_2), some (.int x_3)] (o.toList ++ [(.int sx_0)]) h2 z2 (c + mc) (s + ms)) : ip sc call 152 MC MS Q 451 [some (.ref sc.1), some (.ref r_1), some (.ref r_2), some (.int x_3)] [(.int sx_0)] h z c s := by
  refine jp_load (pc2 := 452) (n := 2) rfl rfl rfl rfl ?_
  refine jp_load (pc2 := 453) (n := 0) rfl rfl rfl rfl ?_
  refine jp_load (pc2 := 454) (n := 3) rfl rfl rfl rfl ?_
  refine jp_con (pc2 := 455) (v := .int 1) rfl rfl rfl ?_
  refine jp_bin (pc2 := 456) (v := x_3 + 1) rfl rfl rfl ?_
  refine jp_sald (pc2 := 457) rfl rfl b1 ?_
  refine jp_load (pc2 := 458) (n := 0) rfl rfl rfl rfl ?_
  refine jp_load (pc2 := 459) (n := 3) rfl rfl rfl rfl ?_
  refine jp_con (pc2 := 460) (v := .int 2) rfl rfl rfl ?_
  refine jp_bin (pc2 := 461) (v := x_3 + 2) rfl rfl rfl ?_
  refine jp_sald (pc2 := 462) rfl rfl b2 ?_
  exact jp_virt (pc2 := 465) (As := [(.int (sc.2.2 (x_3 + 1).toNatClampNeg)), (.int (sc.2.2 (x_3 + 2).toNatClampNeg))]) (rest := [(.int sx_0)]) rfl rfl rfl (Nat.le_of_ble_eq_true rfl) e4 m5 m6 hc rfl K
set_option maxRecDepth 100000 in
theorem b152_465w {r_1 : Nat} {r_2 : Nat} {x_3 : Int32} {sx_0 : Int32} {sx_1 : Int32}  (K1 : sx_0 = sx_1 → ip sc call 152 MC MS Q 542 [some (.ref sc.1), some (.ref r_1), some (.ref r_2), some (.int x_3)] [] h z c s) (K2 : ¬ (sx_0 = sx_1) → ip sc call 152 MC MS Q 468 [some (.ref sc.1), some (.ref r_1), some (.ref r_2), some (.int x_3)] [] h z c s) : ip sc call 152 MC MS Q 465 [some (.ref sc.1), some (.ref r_1), some (.ref r_2), some (.int x_3)] [(.int sx_1), (.int sx_0)] h z c s := by
  exact jp_icmp (pc2 := 468) rfl rfl K1 K2
set_option maxRecDepth 100000 in
theorem b152_468w {o_0 : Option Value} {o_1 : Option Value} {o_2 : Option Value} {o_3 : Option Value} (q1 : Q (some (.int 0)) h z)  : ip sc call 152 MC MS Q 468 [o_0, o_1, o_2, o_3] [] h z c s := by
  refine jp_con (pc2 := 469) (v := .int 0) rfl rfl rfl ?_
  exact ip_iret (st := []) rfl rfl rfl q1
set_option maxRecDepth 100000 in
theorem b152_470gw {r_1 : Nat} {r_2 : Nat} {x_3 : Int32} {fs1 : List Value} {P : ipQ} {mc ms : Nat} (e2 : h r_1 = some (.inr (8, fs1))) (m3 : c + mc ≤ MC) (m4 : s + ms ≤ MS) (hc : call 86 [(.ref r_1)] h z mc ms P) (K : ∀ (o : Option Value) (h2 : HP) (z2 : Nat), P o h2 z2 → ip sc call 152 MC MS Q 474 [some (.ref sc.1), some (.ref r_1), some (.ref r_2), some (.int x_3)] (o.toList ++ []) h2 z2 (c + mc) (s + ms)) : ip sc call 152 MC MS Q 470 [some (.ref sc.1), some (.ref r_1), some (.ref r_2), some (.int x_3)] [] h z c s := by
  refine jp_load (pc2 := 471) (n := 1) rfl rfl rfl rfl ?_
  exact jp_virt (pc2 := 474) (As := []) (rest := []) rfl rfl rfl (Nat.le_of_ble_eq_true rfl) e2 m3 m4 hc rfl K
set_option maxRecDepth 100000 in
theorem b152_474gw {r_1 : Nat} {r_2 : Nat} {x_3 : Int32} {sx_0 : Int32} {fs1 : List Value} {P : ipQ} {mc ms : Nat} (e2 : h r_2 = some (.inr (9, fs1))) (m3 : c + mc ≤ MC) (m4 : s + ms ≤ MS) (hc : call 147 [(.ref r_2)] h z mc ms P) (K : ∀ (o : Option Value) (h2 : HP) (z2 : Nat), P o h2 z2 → ip sc call 152 MC MS Q 478 [some (.ref sc.1), some (.ref r_1), some (.ref r_2), some (.int x_3)] (o.toList ++ [(.int sx_0)]) h2 z2 (c + mc) (s + ms)) : ip sc call 152 MC MS Q 474 [some (.ref sc.1), some (.ref r_1), some (.ref r_2), some (.int x_3)] [(.int sx_0)] h z c s := by
  refine jp_load (pc2 := 475) (n := 2) rfl rfl rfl rfl ?_
  exact jp_virt (pc2 := 478) (As := []) (rest := [(.int sx_0)]) rfl rfl rfl (Nat.le_of_ble_eq_true rfl) e2 m3 m4 hc rfl K
set_option maxRecDepth 100000 in
theorem b152_478w {r_1 : Nat} {r_2 : Nat} {x_3 : Int32} {sx_0 : Int32} {sx_1 : Int32}  (K1 : sx_0 = sx_1 → ip sc call 152 MC MS Q 542 [some (.ref sc.1), some (.ref r_1), some (.ref r_2), some (.int x_3)] [] h z c s) (K2 : ¬ (sx_0 = sx_1) → ip sc call 152 MC MS Q 481 [some (.ref sc.1), some (.ref r_1), some (.ref r_2), some (.int x_3)] [] h z c s) : ip sc call 152 MC MS Q 478 [some (.ref sc.1), some (.ref r_1), some (.ref r_2), some (.int x_3)] [(.int sx_1), (.int sx_0)] h z c s := by
  exact jp_icmp (pc2 := 481) rfl rfl K1 K2
set_option maxRecDepth 100000 in
theorem b152_481w {o_0 : Option Value} {o_1 : Option Value} {o_2 : Option Value} {o_3 : Option Value} (q1 : Q (some (.int 0)) h z)  : ip sc call 152 MC MS Q 481 [o_0, o_1, o_2, o_3] [] h z c s := by
  refine jp_con (pc2 := 482) (v := .int 0) rfl rfl rfl ?_
  exact ip_iret (st := []) rfl rfl rfl q1
set_option maxRecDepth 100000 in
theorem b152_483gw {r_1 : Nat} {r_2 : Nat} {x_3 : Int32} {fs1 : List Value} {P : ipQ} {mc ms : Nat} (e2 : h r_1 = some (.inr (8, fs1))) (m3 : c + mc ≤ MC) (m4 : s + ms ≤ MS) (hc : call 87 [(.ref r_1)] h z mc ms P) (K : ∀ (o : Option Value) (h2 : HP) (z2 : Nat), P o h2 z2 → ip sc call 152 MC MS Q 487 [some (.ref sc.1), some (.ref r_1), some (.ref r_2), some (.int x_3)] (o.toList ++ []) h2 z2 (c + mc) (s + ms)) : ip sc call 152 MC MS Q 483 [some (.ref sc.1), some (.ref r_1), some (.ref r_2), some (.int x_3)] [] h z c s := by
  refine jp_load (pc2 := 484) (n := 1) rfl rfl rfl rfl ?_
  exact jp_virt (pc2 := 487) (As := []) (rest := []) rfl rfl rfl (Nat.le_of_ble_eq_true rfl) e2 m3 m4 hc rfl K
set_option maxRecDepth 100000 in
theorem b152_487gw {r_1 : Nat} {r_2 : Nat} {x_3 : Int32} {sx_0 : Int32} {fs1 : List Value} {P : ipQ} {mc ms : Nat} (e2 : h r_2 = some (.inr (9, fs1))) (m3 : c + mc ≤ MC) (m4 : s + ms ≤ MS) (hc : call 148 [(.ref r_2)] h z mc ms P) (K : ∀ (o : Option Value) (h2 : HP) (z2 : Nat), P o h2 z2 → ip sc call 152 MC MS Q 491 [some (.ref sc.1), some (.ref r_1), some (.ref r_2), some (.int x_3)] (o.toList ++ [(.int sx_0)]) h2 z2 (c + mc) (s + ms)) : ip sc call 152 MC MS Q 487 [some (.ref sc.1), some (.ref r_1), some (.ref r_2), some (.int x_3)] [(.int sx_0)] h z c s := by
  refine jp_load (pc2 := 488) (n := 2) rfl rfl rfl rfl ?_
  exact jp_virt (pc2 := 491) (As := []) (rest := [(.int sx_0)]) rfl rfl rfl (Nat.le_of_ble_eq_true rfl) e2 m3 m4 hc rfl K
set_option maxRecDepth 100000 in
theorem b152_491w {r_1 : Nat} {r_2 : Nat} {x_3 : Int32} {sx_0 : Int32} {sx_1 : Int32}  (K1 : sx_0 = sx_1 → ip sc call 152 MC MS Q 542 [some (.ref sc.1), some (.ref r_1), some (.ref r_2), some (.int x_3)] [] h z c s) (K2 : ¬ (sx_0 = sx_1) → ip sc call 152 MC MS Q 494 [some (.ref sc.1), some (.ref r_1), some (.ref r_2), some (.int x_3)] [] h z c s) : ip sc call 152 MC MS Q 491 [some (.ref sc.1), some (.ref r_1), some (.ref r_2), some (.int x_3)] [(.int sx_1), (.int sx_0)] h z c s := by
  exact jp_icmp (pc2 := 494) rfl rfl K1 K2
set_option maxRecDepth 100000 in
theorem b152_494w {o_0 : Option Value} {o_1 : Option Value} {o_2 : Option Value} {o_3 : Option Value} (q1 : Q (some (.int 0)) h z)  : ip sc call 152 MC MS Q 494 [o_0, o_1, o_2, o_3] [] h z c s := by
  refine jp_con (pc2 := 495) (v := .int 0) rfl rfl rfl ?_
  exact ip_iret (st := []) rfl rfl rfl q1
set_option maxRecDepth 100000 in
theorem b152_496gw {r_1 : Nat} {r_2 : Nat} {x_3 : Int32} {fs2 : List Value} {P : ipQ} {mc ms : Nat} (b1 : vp_in (x_3 + 1) sc.2.1) (e3 : h r_1 = some (.inr (8, fs2))) (m4 : c + mc ≤ MC) (m5 : s + ms ≤ MS) (hc : call 89 [(.ref r_1), (.int (sc.2.2 (x_3 + 1).toNatClampNeg))] h z mc ms P) (K : ∀ (o : Option Value) (h2 : HP) (z2 : Nat), P o h2 z2 → ip sc call 152 MC MS Q 505 [some (.ref sc.1), some (.ref r_1), some (.ref r_2), some (.int x_3)] (o.toList ++ []) h2 z2 (c + mc) (s + ms)) : ip sc call 152 MC MS Q 496 [some (.ref sc.1), some (.ref r_1), some (.ref r_2), some (.int x_3)] [] h z c s := by
  refine jp_load (pc2 := 497) (n := 1) rfl rfl rfl rfl ?_
  refine jp_load (pc2 := 498) (n := 0) rfl rfl rfl rfl ?_
  refine jp_load (pc2 := 499) (n := 3) rfl rfl rfl rfl ?_
  refine jp_con (pc2 := 500) (v := .int 1) rfl rfl rfl ?_
  refine jp_bin (pc2 := 501) (v := x_3 + 1) rfl rfl rfl ?_
  refine jp_sald (pc2 := 502) rfl rfl b1 ?_
  exact jp_virt (pc2 := 505) (As := [(.int (sc.2.2 (x_3 + 1).toNatClampNeg))]) (rest := []) rfl rfl rfl (Nat.le_of_ble_eq_true rfl) e3 m4 m5 hc rfl K
set_option maxRecDepth 100000 in
theorem b152_505gw {r_1 : Nat} {r_2 : Nat} {x_3 : Int32} {sx_0 : Int32} {fs2 : List Value} {P : ipQ} {mc ms : Nat} (b1 : vp_in (x_3 + 1) sc.2.1) (e3 : h r_2 = some (.inr (9, fs2))) (m4 : c + mc ≤ MC) (m5 : s + ms ≤ MS) (hc : call 149 [(.ref r_2), (.int (sc.2.2 (x_3 + 1).toNatClampNeg))] h z mc ms P) (K : ∀ (o : Option Value) (h2 : HP) (z2 : Nat), P o h2 z2 → ip sc call 152 MC MS Q 514 [some (.ref sc.1), some (.ref r_1), some (.ref r_2), some (.int x_3)] (o.toList ++ [(.int sx_0)]) h2 z2 (c + mc) (s + ms)) : ip sc call 152 MC MS Q 505 [some (.ref sc.1), some (.ref r_1), some (.ref r_2), some (.int x_3)] [(.int sx_0)] h z c s := by
  refine jp_load (pc2 := 506) (n := 2) rfl rfl rfl rfl ?_
  refine jp_load (pc2 := 507) (n := 0) rfl rfl rfl rfl ?_
  refine jp_load (pc2 := 508) (n := 3) rfl rfl rfl rfl ?_
  refine jp_con (pc2 := 509) (v := .int 1) rfl rfl rfl ?_
  refine jp_bin (pc2 := 510) (v := x_3 + 1) rfl rfl rfl ?_
  refine jp_sald (pc2 := 511) rfl rfl b1 ?_
  exact jp_virt (pc2 := 514) (As := [(.int (sc.2.2 (x_3 + 1).toNatClampNeg))]) (rest := [(.int sx_0)]) rfl rfl rfl (Nat.le_of_ble_eq_true rfl) e3 m4 m5 hc rfl K
set_option maxRecDepth 100000 in
theorem b152_514w {r_1 : Nat} {r_2 : Nat} {x_3 : Int32} {sx_0 : Int32} {sx_1 : Int32}  (K1 : sx_0 = sx_1 → ip sc call 152 MC MS Q 542 [some (.ref sc.1), some (.ref r_1), some (.ref r_2), some (.int x_3)] [] h z c s) (K2 : ¬ (sx_0 = sx_1) → ip sc call 152 MC MS Q 517 [some (.ref sc.1), some (.ref r_1), some (.ref r_2), some (.int x_3)] [] h z c s) : ip sc call 152 MC MS Q 514 [some (.ref sc.1), some (.ref r_1), some (.ref r_2), some (.int x_3)] [(.int sx_1), (.int sx_0)] h z c s := by
  exact jp_icmp (pc2 := 517) rfl rfl K1 K2
set_option maxRecDepth 100000 in
theorem b152_517w {o_0 : Option Value} {o_1 : Option Value} {o_2 : Option Value} {o_3 : Option Value} (q1 : Q (some (.int 0)) h z)  : ip sc call 152 MC MS Q 517 [o_0, o_1, o_2, o_3] [] h z c s := by
  refine jp_con (pc2 := 518) (v := .int 0) rfl rfl rfl ?_
  exact ip_iret (st := []) rfl rfl rfl q1
set_option maxRecDepth 100000 in
theorem b152_519gw {r_1 : Nat} {r_2 : Nat} {x_3 : Int32} {fs2 : List Value} {P : ipQ} {mc ms : Nat} (b1 : vp_in (x_3 + 1) sc.2.1) (e3 : h r_1 = some (.inr (8, fs2))) (m4 : c + mc ≤ MC) (m5 : s + ms ≤ MS) (hc : call 90 [(.ref r_1), (.int (sc.2.2 (x_3 + 1).toNatClampNeg))] h z mc ms P) (K : ∀ (o : Option Value) (h2 : HP) (z2 : Nat), P o h2 z2 → ip sc call 152 MC MS Q 528 [some (.ref sc.1), some (.ref r_1), some (.ref r_2), some (.int x_3)] (o.toList ++ []) h2 z2 (c + mc) (s + ms)) : ip sc call 152 MC MS Q 519 [some (.ref sc.1), some (.ref r_1), some (.ref r_2), some (.int x_3)] [] h z c s := by
  refine jp_load (pc2 := 520) (n := 1) rfl rfl rfl rfl ?_
  refine jp_load (pc2 := 521) (n := 0) rfl rfl rfl rfl ?_
  refine jp_load (pc2 := 522) (n := 3) rfl rfl rfl rfl ?_
  refine jp_con (pc2 := 523) (v := .int 1) rfl rfl rfl ?_
  refine jp_bin (pc2 := 524) (v := x_3 + 1) rfl rfl rfl ?_
  refine jp_sald (pc2 := 525) rfl rfl b1 ?_
  exact jp_virt (pc2 := 528) (As := [(.int (sc.2.2 (x_3 + 1).toNatClampNeg))]) (rest := []) rfl rfl rfl (Nat.le_of_ble_eq_true rfl) e3 m4 m5 hc rfl K
set_option maxRecDepth 100000 in
theorem b152_528gw {r_1 : Nat} {r_2 : Nat} {x_3 : Int32} {sx_0 : Int32} {fs2 : List Value} {P : ipQ} {mc ms : Nat} (b1 : vp_in (x_3 + 1) sc.2.1) (e3 : h r_2 = some (.inr (9, fs2))) (m4 : c + mc ≤ MC) (m5 : s + ms ≤ MS) (hc : call 150 [(.ref r_2), (.int (sc.2.2 (x_3 + 1).toNatClampNeg))] h z mc ms P) (K : ∀ (o : Option Value) (h2 : HP) (z2 : Nat), P o h2 z2 → ip sc call 152 MC MS Q 537 [some (.ref sc.1), some (.ref r_1), some (.ref r_2), some (.int x_3)] (o.toList ++ [(.int sx_0)]) h2 z2 (c + mc) (s + ms)) : ip sc call 152 MC MS Q 528 [some (.ref sc.1), some (.ref r_1), some (.ref r_2), some (.int x_3)] [(.int sx_0)] h z c s := by
  refine jp_load (pc2 := 529) (n := 2) rfl rfl rfl rfl ?_
  refine jp_load (pc2 := 530) (n := 0) rfl rfl rfl rfl ?_
  refine jp_load (pc2 := 531) (n := 3) rfl rfl rfl rfl ?_
  refine jp_con (pc2 := 532) (v := .int 1) rfl rfl rfl ?_
  refine jp_bin (pc2 := 533) (v := x_3 + 1) rfl rfl rfl ?_
  refine jp_sald (pc2 := 534) rfl rfl b1 ?_
  exact jp_virt (pc2 := 537) (As := [(.int (sc.2.2 (x_3 + 1).toNatClampNeg))]) (rest := [(.int sx_0)]) rfl rfl rfl (Nat.le_of_ble_eq_true rfl) e3 m4 m5 hc rfl K
set_option maxRecDepth 100000 in
theorem b152_537w {r_1 : Nat} {r_2 : Nat} {x_3 : Int32} {sx_0 : Int32} {sx_1 : Int32}  (K1 : sx_0 = sx_1 → ip sc call 152 MC MS Q 542 [some (.ref sc.1), some (.ref r_1), some (.ref r_2), some (.int x_3)] [] h z c s) (K2 : ¬ (sx_0 = sx_1) → ip sc call 152 MC MS Q 540 [some (.ref sc.1), some (.ref r_1), some (.ref r_2), some (.int x_3)] [] h z c s) : ip sc call 152 MC MS Q 537 [some (.ref sc.1), some (.ref r_1), some (.ref r_2), some (.int x_3)] [(.int sx_1), (.int sx_0)] h z c s := by
  exact jp_icmp (pc2 := 540) rfl rfl K1 K2
set_option maxRecDepth 100000 in
theorem b152_540w {o_0 : Option Value} {o_1 : Option Value} {o_2 : Option Value} {o_3 : Option Value} (q1 : Q (some (.int 0)) h z)  : ip sc call 152 MC MS Q 540 [o_0, o_1, o_2, o_3] [] h z c s := by
  refine jp_con (pc2 := 541) (v := .int 0) rfl rfl rfl ?_
  exact ip_iret (st := []) rfl rfl rfl q1
set_option maxRecDepth 100000 in
theorem b152_542w {r_1 : Nat} {r_2 : Nat} {x_3 : Int32}  (K : ip sc call 152 MC MS Q 18 [some (.ref sc.1), some (.ref r_1), some (.ref r_2), some (.int (x_3 + 7))] [] h z c s) : ip sc call 152 MC MS Q 542 [some (.ref sc.1), some (.ref r_1), some (.ref r_2), some (.int x_3)] [] h z c s := by
  refine jp_iinc (pc2 := 545) (n := 3) (v := x_3 + 7) rfl rfl rfl rfl rfl ?_
  refine ip_goto rfl ?_
  exact K
set_option maxRecDepth 100000 in
theorem b152_548w {o_0 : Option Value} {o_1 : Option Value} {o_2 : Option Value} {o_3 : Option Value} (q1 : Q (some (.int 1)) h z)  : ip sc call 152 MC MS Q 548 [o_0, o_1, o_2, o_3] [] h z c s := by
  refine jp_con (pc2 := 549) (v := .int 1) rfl rfl rfl ?_
  exact ip_iret (st := []) rfl rfl rfl q1
end BLK
