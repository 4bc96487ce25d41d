/-! straight stretches of bytecode, printed by wip/whole/gen_blk.py -/
section BLK
variable {sc : ipSc} {call : ipCall} {MC MS : Nat} {Q : ipQ} {h : HP} {z c s : Nat}
set_option maxRecDepth 100000 in
theorem b152_0g {r_0 : Nat} {o_1 : Option Value} {o_2 : Option Value} {o_3 : Option Value} {P : ipQ} {mc ms : Nat} (m1 : c + 1 ≤ MC) (m2 : s + 4 ≤ MS) (m3 : c + 1 + mc ≤ MC) (m4 : s + 4 + ms ≤ MS) (hc : call 73 [(.ref z)] (hup h z (.inr (8, (ipDef 8)))) (z + 1) mc ms P) (K : ∀ (o : Option Value) (h2 : HP) (z2 : Nat), P o h2 z2 → ip sc call 152 MC MS Q 7 [some (.ref r_0), o_1, o_2, o_3] (o.toList ++ [(.ref z)]) h2 z2 (c + 1 + mc) (s + 4 + ms)) : ip sc call 152 MC MS Q 0 [some (.ref r_0), o_1, o_2, o_3] [] h z c s := by
  refine jp_new (pc2 := 3) (N := 4) rfl rfl rfl m1 m2 ?_
  refine jp_dup (pc2 := 4) rfl rfl rfl ?_
  exact jp_spec (pc2 := 7) (As := []) (rest := [(.ref z)]) rfl rfl rfl (Nat.le_of_ble_eq_true rfl) m3 m4 (by decide) hc rfl K
set_option maxRecDepth 100000 in
theorem b152_7g {r_0 : Nat} {o_1 : Option Value} {o_2 : Option Value} {o_3 : Option Value} {sr_0 : Nat} {P : ipQ} {mc ms : Nat} (m1 : c + 1 ≤ MC) (m2 : s + 16 ≤ MS) (m3 : c + 1 + mc ≤ MC) (m4 : s + 16 + ms ≤ MS) (hc : call 91 [(.ref z)] (hup h z (.inr (9, (ipDef 9)))) (z + 1) mc ms P) (K : ∀ (o : Option Value) (h2 : HP) (z2 : Nat), P o h2 z2 → ip sc call 152 MC MS Q 15 [some (.ref r_0), some (.ref sr_0), o_2, o_3] (o.toList ++ [(.ref z)]) h2 z2 (c + 1 + mc) (s + 16 + ms)) : ip sc call 152 MC MS Q 7 [some (.ref r_0), o_1, o_2, o_3] [(.ref sr_0)] h z c s := by
  refine jp_store (pc2 := 8) (n := 1) rfl rfl ⟨rfl, rfl⟩ rfl (Nat.le_of_ble_eq_true rfl) ?_
  refine jp_new (pc2 := 11) (N := 16) rfl rfl rfl m1 m2 ?_
  refine jp_dup (pc2 := 12) rfl rfl rfl ?_
  exact jp_spec (pc2 := 15) (As := []) (rest := [(.ref z)]) rfl rfl rfl (Nat.le_of_ble_eq_true rfl) m3 m4 (by decide) hc rfl K
set_option maxRecDepth 100000 in
theorem b152_15 {r_0 : Nat} {r_1 : Nat} {o_2 : Option Value} {o_3 : Option Value} {sr_0 : Nat}  (K : ip sc call 152 MC MS Q 18 [some (.ref r_0), some (.ref r_1), some (.ref sr_0), some (.int 0)] [] h z c s) : ip sc call 152 MC MS Q 15 [some (.ref r_0), some (.ref r_1), o_2, o_3] [(.ref sr_0)] h z c s := by
  refine jp_store (pc2 := 16) (n := 2) rfl rfl ⟨rfl, rfl⟩ rfl (Nat.le_of_ble_eq_true rfl) ?_
  refine jp_con (pc2 := 17) (v := .int 0) rfl rfl rfl ?_
  refine jp_store (pc2 := 18) (n := 3) rfl rfl ⟨rfl, rfl⟩ rfl (Nat.le_of_ble_eq_true rfl) ?_
  exact K
-- b152_18 by hand: script length: by hand
set_option maxRecDepth 100000 in
theorem b152_27 {r_0 : Nat} {r_1 : Nat} {r_2 : Nat} {x_3 : Int32} {n1 : Nat} {f2 : Nat → Int32} {tgt : Nat} (e3 : h r_0 = some (.inl (0, n1, .inl f2))) (b4 : vp_in x_3 n1) (t5 : ipTab 33 509 0 15 #[79, 102, 125, 148, 181, 224, 247, 322, 335, 358, 391, 404, 437, 450, 463, 486] ((f2 x_3.toNatClampNeg) &&& 15) = some tgt) (K : ip sc call 152 MC MS Q tgt [some (.ref r_0), some (.ref r_1), some (.ref r_2), some (.int x_3)] [] h z c s) : ip sc call 152 MC MS Q 27 [some (.ref r_0), some (.ref r_1), some (.ref r_2), some (.int x_3)] [] h z c s := by
  refine jp_load (pc2 := 28) (n := 0) rfl rfl rfl rfl ?_
  refine jp_load (pc2 := 29) (n := 3) rfl rfl rfl rfl ?_
  refine jp_iald (pc2 := 30) rfl rfl e3 b4 ?_
  refine jp_con (pc2 := 32) (v := .int 15) rfl rfl rfl ?_
  refine jp_bin (pc2 := 33) (v := (f2 x_3.toNatClampNeg) &&& 15) rfl rfl rfl ?_
  exact ip_tab rfl t5 K
set_option maxRecDepth 100000 in
theorem b152_112g {r_0 : Nat} {r_1 : Nat} {r_2 : Nat} {x_3 : Int32} {n1 : Nat} {f2 : Nat → Int32} {fs5 : List Value} {P : ipQ} {mc ms : Nat} (e3 : h r_0 = some (.inl (0, n1, .inl f2))) (b4 : vp_in (x_3 + 1) n1) (e6 : h r_1 = some (.inr (8, fs5))) (m7 : c + mc ≤ MC) (m8 : s + ms ≤ MS) (hc : call 74 [(.ref r_1), (.int (f2 (x_3 + 1).toNatClampNeg))] h z mc ms P) (K : ∀ (o : Option Value) (h2 : HP) (z2 : Nat), P o h2 z2 → ip sc call 152 MC MS Q 121 [some (.ref r_0), some (.ref r_1), some (.ref r_2), some (.int x_3)] (o.toList ++ []) h2 z2 (c + mc) (s + ms)) : ip sc call 152 MC MS Q 112 [some (.ref r_0), some (.ref r_1), some (.ref r_2), some (.int x_3)] [] h z c s := by
  refine jp_load (pc2 := 113) (n := 1) rfl rfl rfl rfl ?_
  refine jp_load (pc2 := 114) (n := 0) rfl rfl rfl rfl ?_
  refine jp_load (pc2 := 115) (n := 3) rfl rfl rfl rfl ?_
  refine jp_con (pc2 := 116) (v := .int 1) rfl rfl rfl ?_
  refine jp_bin (pc2 := 117) (v := x_3 + 1) rfl rfl rfl ?_
  refine jp_iald (pc2 := 118) rfl rfl e3 b4 ?_
  exact jp_virt (pc2 := 121) (As := [(.int (f2 (x_3 + 1).toNatClampNeg))]) (rest := []) rfl rfl rfl (Nat.le_of_ble_eq_true rfl) e6 m7 m8 hc rfl K
set_option maxRecDepth 100000 in
theorem b152_121g {r_0 : Nat} {r_1 : Nat} {r_2 : Nat} {x_3 : Int32} {sx_0 : Int32} {n1 : Nat} {f2 : Nat → Int32} {fs5 : List Value} {P : ipQ} {mc ms : Nat} (e3 : h r_0 = some (.inl (0, n1, .inl f2))) (b4 : vp_in (x_3 + 1) n1) (e6 : h r_2 = some (.inr (9, fs5))) (m7 : c + mc ≤ MC) (m8 : s + ms ≤ MS) (hc : call 96 [(.ref r_2), (.int (f2 (x_3 + 1).toNatClampNeg))] h z mc ms P) (K : ∀ (o : Option Value) (h2 : HP) (z2 : Nat), P o h2 z2 → ip sc call 152 MC MS Q 130 [some (.ref r_0), some (.ref r_1), some (.ref r_2), some (.int x_3)] (o.toList ++ [(.int sx_0)]) h2 z2 (c + mc) (s + ms)) : ip sc call 152 MC MS Q 121 [some (.ref r_0), some (.ref r_1), some (.ref r_2), some (.int x_3)] [(.int sx_0)] h z c s := by
  refine jp_load (pc2 := 122) (n := 2) rfl rfl rfl rfl ?_
  refine jp_load (pc2 := 123) (n := 0) rfl rfl rfl rfl ?_
  refine jp_load (pc2 := 124) (n := 3) rfl rfl rfl rfl ?_
  refine jp_con (pc2 := 125) (v := .int 1) rfl rfl rfl ?_
  refine jp_bin (pc2 := 126) (v := x_3 + 1) rfl rfl rfl ?_
  refine jp_iald (pc2 := 127) rfl rfl e3 b4 ?_
  exact jp_virt (pc2 := 130) (As := [(.int (f2 (x_3 + 1).toNatClampNeg))]) (rest := [(.int sx_0)]) rfl rfl rfl (Nat.le_of_ble_eq_true rfl) e6 m7 m8 hc rfl K
set_option maxRecDepth 100000 in
theorem b152_130 {r_0 : Nat} {r_1 : Nat} {r_2 : Nat} {x_3 : Int32} {sx_0 : Int32} {sx_1 : Int32}  (K1 : sx_0 = sx_1 → ip sc call 152 MC MS Q 542 [some (.ref r_0), some (.ref r_1), some (.ref r_2), some (.int x_3)] [] h z c s) (K2 : ¬ (sx_0 = sx_1) → ip sc call 152 MC MS Q 133 [some (.ref r_0), some (.ref r_1), some (.ref r_2), some (.int x_3)] [] h z c s) : ip sc call 152 MC MS Q 130 [some (.ref r_0), some (.ref r_1), some (.ref r_2), some (.int x_3)] [(.int sx_1), (.int sx_0)] h z c s := by
  exact jp_icmp (pc2 := 133) rfl rfl K1 K2
set_option maxRecDepth 100000 in
theorem b152_133 {o_0 : Option Value} {o_1 : Option Value} {o_2 : Option Value} {o_3 : Option Value} (q1 : Q (some (.int 0)) h z)  : ip sc call 152 MC MS Q 133 [o_0, o_1, o_2, o_3] [] h z c s := by
  refine jp_con (pc2 := 134) (v := .int 0) rfl rfl rfl ?_
  exact ip_iret (st := []) rfl rfl rfl q1
set_option maxRecDepth 100000 in
theorem b152_135g {r_0 : Nat} {r_1 : Nat} {r_2 : Nat} {x_3 : Int32} {n1 : Nat} {f2 : Nat → Int32} {fs5 : List Value} {P : ipQ} {mc ms : Nat} (e3 : h r_0 = some (.inl (0, n1, .inl f2))) (b4 : vp_in (x_3 + 1) n1) (e6 : h r_1 = some (.inr (8, fs5))) (m7 : c + mc ≤ MC) (m8 : s + ms ≤ MS) (hc : call 75 [(.ref r_1), (.int (f2 (x_3 + 1).toNatClampNeg))] h z mc ms P) (K : ∀ (o : Option Value) (h2 : HP) (z2 : Nat), P o h2 z2 → ip sc call 152 MC MS Q 144 [some (.ref r_0), some (.ref r_1), some (.ref r_2), some (.int x_3)] (o.toList ++ []) h2 z2 (c + mc) (s + ms)) : ip sc call 152 MC MS Q 135 [some (.ref r_0), some (.ref r_1), some (.ref r_2), some (.int x_3)] [] h z c s := by
  refine jp_load (pc2 := 136) (n := 1) rfl rfl rfl rfl ?_
  refine jp_load (pc2 := 137) (n := 0) rfl rfl rfl rfl ?_
  refine jp_load (pc2 := 138) (n := 3) rfl rfl rfl rfl ?_
  refine jp_con (pc2 := 139) (v := .int 1) rfl rfl rfl ?_
  refine jp_bin (pc2 := 140) (v := x_3 + 1) rfl rfl rfl ?_
  refine jp_iald (pc2 := 141) rfl rfl e3 b4 ?_
  exact jp_virt (pc2 := 144) (As := [(.int (f2 (x_3 + 1).toNatClampNeg))]) (rest := []) rfl rfl rfl (Nat.le_of_ble_eq_true rfl) e6 m7 m8 hc rfl K
set_option maxRecDepth 100000 in
theorem b152_144g {r_0 : Nat} {r_1 : Nat} {r_2 : Nat} {x_3 : Int32} {sx_0 : Int32} {n1 : Nat} {f2 : Nat → Int32} {fs5 : List Value} {P : ipQ} {mc ms : Nat} (e3 : h r_0 = some (.inl (0, n1, .inl f2))) (b4 : vp_in (x_3 + 1) n1) (e6 : h r_2 = some (.inr (9, fs5))) (m7 : c + mc ≤ MC) (m8 : s + ms ≤ MS) (hc : call 117 [(.ref r_2), (.int (f2 (x_3 + 1).toNatClampNeg))] h z mc ms P) (K : ∀ (o : Option Value) (h2 : HP) (z2 : Nat), P o h2 z2 → ip sc call 152 MC MS Q 153 [some (.ref r_0), some (.ref r_1), some (.ref r_2), some (.int x_3)] (o.toList ++ [(.int sx_0)]) h2 z2 (c + mc) (s + ms)) : ip sc call 152 MC MS Q 144 [some (.ref r_0), some (.ref r_1), some (.ref r_2), some (.int x_3)] [(.int sx_0)] h z c s := by
  refine jp_load (pc2 := 145) (n := 2) rfl rfl rfl rfl ?_
  refine jp_load (pc2 := 146) (n := 0) rfl rfl rfl rfl ?_
  refine jp_load (pc2 := 147) (n := 3) rfl rfl rfl rfl ?_
  refine jp_con (pc2 := 148) (v := .int 1) rfl rfl rfl ?_
  refine jp_bin (pc2 := 149) (v := x_3 + 1) rfl rfl rfl ?_
  refine jp_iald (pc2 := 150) rfl rfl e3 b4 ?_
  exact jp_virt (pc2 := 153) (As := [(.int (f2 (x_3 + 1).toNatClampNeg))]) (rest := [(.int sx_0)]) rfl rfl rfl (Nat.le_of_ble_eq_true rfl) e6 m7 m8 hc rfl K
set_option maxRecDepth 100000 in
theorem b152_153 {r_0 : Nat} {r_1 : Nat} {r_2 : Nat} {x_3 : Int32} {sx_0 : Int32} {sx_1 : Int32}  (K1 : sx_0 = sx_1 → ip sc call 152 MC MS Q 542 [some (.ref r_0), some (.ref r_1), some (.ref r_2), some (.int x_3)] [] h z c s) (K2 : ¬ (sx_0 = sx_1) → ip sc call 152 MC MS Q 156 [some (.ref r_0), some (.ref r_1), some (.ref r_2), some (.int x_3)] [] h z c s) : ip sc call 152 MC MS Q 153 [some (.ref r_0), some (.ref r_1), some (.ref r_2), some (.int x_3)] [(.int sx_1), (.int sx_0)] h z c s := by
  exact jp_icmp (pc2 := 156) rfl rfl K1 K2
set_option maxRecDepth 100000 in
theorem b152_156 {o_0 : Option Value} {o_1 : Option Value} {o_2 : Option Value} {o_3 : Option Value} (q1 : Q (some (.int 0)) h z)  : ip sc call 152 MC MS Q 156 [o_0, o_1, o_2, o_3] [] h z c s := by
  refine jp_con (pc2 := 157) (v := .int 0) rfl rfl rfl ?_
  exact ip_iret (st := []) rfl rfl rfl q1
set_option maxRecDepth 100000 in
theorem b152_158g {r_0 : Nat} {r_1 : Nat} {r_2 : Nat} {x_3 : Int32} {n1 : Nat} {f2 : Nat → Int32} {fs5 : List Value} {P : ipQ} {mc ms : Nat} (e3 : h r_0 = some (.inl (0, n1, .inl f2))) (b4 : vp_in (x_3 + 1) n1) (e6 : h r_1 = some (.inr (8, fs5))) (m7 : c + mc ≤ MC) (m8 : s + ms ≤ MS) (hc : call 76 [(.ref r_1), (.int (f2 (x_3 + 1).toNatClampNeg))] h z mc ms P) (K : ∀ (o : Option Value) (h2 : HP) (z2 : Nat), P o h2 z2 → ip sc call 152 MC MS Q 167 [some (.ref r_0), some (.ref r_1), some (.ref r_2), some (.int x_3)] (o.toList ++ []) h2 z2 (c + mc) (s + ms)) : ip sc call 152 MC MS Q 158 [some (.ref r_0), some (.ref r_1), some (.ref r_2), some (.int x_3)] [] h z c s := by
  refine jp_load (pc2 := 159) (n := 1) rfl rfl rfl rfl ?_
  refine jp_load (pc2 := 160) (n := 0) rfl rfl rfl rfl ?_
  refine jp_load (pc2 := 161) (n := 3) rfl rfl rfl rfl ?_
  refine jp_con (pc2 := 162) (v := .int 1) rfl rfl rfl ?_
  refine jp_bin (pc2 := 163) (v := x_3 + 1) rfl rfl rfl ?_
  refine jp_iald (pc2 := 164) rfl rfl e3 b4 ?_
  exact jp_virt (pc2 := 167) (As := [(.int (f2 (x_3 + 1).toNatClampNeg))]) (rest := []) rfl rfl rfl (Nat.le_of_ble_eq_true rfl) e6 m7 m8 hc rfl K
set_option maxRecDepth 100000 in
theorem b152_167g {r_0 : Nat} {r_1 : Nat} {r_2 : Nat} {x_3 : Int32} {sx_0 : Int32} {n1 : Nat} {f2 : Nat → Int32} {fs5 : List Value} {P : ipQ} {mc ms : Nat} (e3 : h r_0 = some (.inl (0, n1, .inl f2))) (b4 : vp_in (x_3 + 1) n1) (e6 : h r_2 = some (.inr (9, fs5))) (m7 : c + mc ≤ MC) (m8 : s + ms ≤ MS) (hc : call 124 [(.ref r_2), (.int (f2 (x_3 + 1).toNatClampNeg))] h z mc ms P) (K : ∀ (o : Option Value) (h2 : HP) (z2 : Nat), P o h2 z2 → ip sc call 152 MC MS Q 176 [some (.ref r_0), some (.ref r_1), some (.ref r_2), some (.int x_3)] (o.toList ++ [(.int sx_0)]) h2 z2 (c + mc) (s + ms)) : ip sc call 152 MC MS Q 167 [some (.ref r_0), some (.ref r_1), some (.ref r_2), some (.int x_3)] [(.int sx_0)] h z c s := by
  refine jp_load (pc2 := 168) (n := 2) rfl rfl rfl rfl ?_
  refine jp_load (pc2 := 169) (n := 0) rfl rfl rfl rfl ?_
  refine jp_load (pc2 := 170) (n := 3) rfl rfl rfl rfl ?_
  refine jp_con (pc2 := 171) (v := .int 1) rfl rfl rfl ?_
  refine jp_bin (pc2 := 172) (v := x_3 + 1) rfl rfl rfl ?_
  refine jp_iald (pc2 := 173) rfl rfl e3 b4 ?_
  exact jp_virt (pc2 := 176) (As := [(.int (f2 (x_3 + 1).toNatClampNeg))]) (rest := [(.int sx_0)]) rfl rfl rfl (Nat.le_of_ble_eq_true rfl) e6 m7 m8 hc rfl K
set_option maxRecDepth 100000 in
theorem b152_176 {r_0 : Nat} {r_1 : Nat} {r_2 : Nat} {x_3 : Int32} {sx_0 : Int32} {sx_1 : Int32}  (K1 : sx_0 = sx_1 → ip sc call 152 MC MS Q 542 [some (.ref r_0), some (.ref r_1), some (.ref r_2), some (.int x_3)] [] h z c s) (K2 : ¬ (sx_0 = sx_1) → ip sc call 152 MC MS Q 179 [some (.ref r_0), some (.ref r_1), some (.ref r_2), some (.int x_3)] [] h z c s) : ip sc call 152 MC MS Q 176 [some (.ref r_0), some (.ref r_1), some (.ref r_2), some (.int x_3)] [(.int sx_1), (.int sx_0)] h z c s := by
  exact jp_icmp (pc2 := 179) rfl rfl K1 K2
set_option maxRecDepth 100000 in
theorem b152_179 {o_0 : Option Value} {o_1 : Option Value} {o_2 : Option Value} {o_3 : Option Value} (q1 : Q (some (.int 0)) h z)  : ip sc call 152 MC MS Q 179 [o_0, o_1, o_2, o_3] [] h z c s := by
  refine jp_con (pc2 := 180) (v := .int 0) rfl rfl rfl ?_
  exact ip_iret (st := []) rfl rfl rfl q1
set_option maxRecDepth 100000 in
theorem b152_181g {r_0 : Nat} {r_1 : Nat} {r_2 : Nat} {x_3 : Int32} {n1 : Nat} {f2 : Nat → Int32} {fs6 : List Value} {P : ipQ} {mc ms : Nat} (e3 : h r_0 = some (.inl (0, n1, .inl f2))) (b4 : vp_in (x_3 + 1) n1) (b5 : vp_in (x_3 + 2) n1) (e7 : h r_1 = some (.inr (8, fs6))) (m8 : c + mc ≤ MC) (m9 : s + ms ≤ MS) (hc : call 77 [(.ref r_1), (.int (f2 (x_3 + 1).toNatClampNeg)), (.int (f2 (x_3 + 2).toNatClampNeg))] h z mc ms P) (K : ∀ (o : Option Value) (h2 : HP) (z2 : Nat), P o h2 z2 → ip sc call 152 MC MS Q 195 [some (.ref r_0), some (.ref r_1), some (.ref r_2), some (.int x_3)] (o.toList ++ []) h2 z2 (c + mc) (s + ms)) : ip sc call 152 MC MS Q 181 [some (.ref r_0), some (.ref r_1), some (.ref r_2), some (.int x_3)] [] h z c s := by
  refine jp_load (pc2 := 182) (n := 1) rfl rfl rfl rfl ?_
  refine jp_load (pc2 := 183) (n := 0) rfl rfl rfl rfl ?_
  refine jp_load (pc2 := 184) (n := 3) rfl rfl rfl rfl ?_
  refine jp_con (pc2 := 185) (v := .int 1) rfl rfl rfl ?_
  refine jp_bin (pc2 := 186) (v := x_3 + 1) rfl rfl rfl ?_
  refine jp_iald (pc2 := 187) rfl rfl e3 b4 ?_
  refine jp_load (pc2 := 188) (n := 0) rfl rfl rfl rfl ?_
  refine jp_load (pc2 := 189) (n := 3) rfl rfl rfl rfl ?_
  refine jp_con (pc2 := 190) (v := .int 2) rfl rfl rfl ?_
  refine jp_bin (pc2 := 191) (v := x_3 + 2) rfl rfl rfl ?_
  refine jp_iald (pc2 := 192) rfl rfl e3 b5 ?_
  exact jp_virt (pc2 := 195) (As := [(.int (f2 (x_3 + 1).toNatClampNeg)), (.int (f2 (x_3 + 2).toNatClampNeg))]) (rest := []) rfl rfl rfl (Nat.le_of_ble_eq_true rfl) e7 m8 m9 hc rfl K
set_option maxRecDepth 100000 in
theorem b152_195g {r_0 : Nat} {r_1 : Nat} {r_2 : Nat} {x_3 : Int32} {sx_0 : Int32} {n1 : Nat} {f2 : Nat → Int32} {fs6 : List Value} {P : ipQ} {mc ms : Nat} (e3 : h r_0 = some (.inl (0, n1, .inl f2))) (b4 : vp_in (x_3 + 1) n1) (b5 : vp_in (x_3 + 2) n1) (e7 : h r_2 = some (.inr (9, fs6))) (m8 : c + mc ≤ MC) (m9 : s + ms ≤ MS) (hc : call 125 [(.ref r_2), (.int (f2 (x_3 + 1).toNatClampNeg)), (.int (f2 (x_3 + 2).toNatClampNeg))] h z mc ms P) (K : ∀ (o : Option Value) (h2 : HP) (z2 : Nat), P o h2 z2 → ip sc call 152 MC MS Q 209 [some (.ref r_0), some (.ref r_1), some (.ref r_2), some (.int x_3)] (o.toList ++ [(.int sx_0)]) h2 z2 (c + mc) (s + ms)) : ip sc call 152 MC MS Q 195 [some (.ref r_0), some (.ref r_1), some (.ref r_2), some (.int x_3)] [(.int sx_0)] h z c s := by
  refine jp_load (pc2 := 196) (n := 2) rfl rfl rfl rfl ?_
  refine jp_load (pc2 := 197) (n := 0) rfl rfl rfl rfl ?_
  refine jp_load (pc2 := 198) (n := 3) rfl rfl rfl rfl ?_
  refine jp_con (pc2 := 199) (v := .int 1) rfl rfl rfl ?_
  refine jp_bin (pc2 := 200) (v := x_3 + 1) rfl rfl rfl ?_
  refine jp_iald (pc2 := 201) rfl rfl e3 b4 ?_
  refine jp_load (pc2 := 202) (n := 0) rfl rfl rfl rfl ?_
  refine jp_load (pc2 := 203) (n := 3) rfl rfl rfl rfl ?_
  refine jp_con (pc2 := 204) (v := .int 2) rfl rfl rfl ?_
  refine jp_bin (pc2 := 205) (v := x_3 + 2) rfl rfl rfl ?_
  refine jp_iald (pc2 := 206) rfl rfl e3 b5 ?_
  exact jp_virt (pc2 := 209) (As := [(.int (f2 (x_3 + 1).toNatClampNeg)), (.int (f2 (x_3 + 2).toNatClampNeg))]) (rest := [(.int sx_0)]) rfl rfl rfl (Nat.le_of_ble_eq_true rfl) e7 m8 m9 hc rfl K
set_option maxRecDepth 100000 in
theorem b152_209 {r_0 : Nat} {r_1 : Nat} {r_2 : Nat} {x_3 : Int32} {sx_0 : Int32} {sx_1 : Int32}  (K1 : sx_0 = sx_1 → ip sc call 152 MC MS Q 542 [some (.ref r_0), some (.ref r_1), some (.ref r_2), some (.int x_3)] [] h z c s) (K2 : ¬ (sx_0 = sx_1) → ip sc call 152 MC MS Q 212 [some (.ref r_0), some (.ref r_1), some (.ref r_2), some (.int x_3)] [] h z c s) : ip sc call 152 MC MS Q 209 [some (.ref r_0), some (.ref r_1), some (.ref r_2), some (.int x_3)] [(.int sx_1), (.int sx_0)] h z c s := by
  exact jp_icmp (pc2 := 212) rfl rfl K1 K2
set_option maxRecDepth 100000 in
theorem b152_212 {o_0 : Option Value} {o_1 : Option Value} {o_2 : Option Value} {o_3 : Option Value} (q1 : Q (some (.int 0)) h z)  : ip sc call 152 MC MS Q 212 [o_0, o_1, o_2, o_3] [] h z c s := by
  refine jp_con (pc2 := 213) (v := .int 0) rfl rfl rfl ?_
  exact ip_iret (st := []) rfl rfl rfl q1
set_option maxRecDepth 100000 in
theorem b152_214g {r_0 : Nat} {r_1 : Nat} {r_2 : Nat} {x_3 : Int32} {n1 : Nat} {f2 : Nat → Int32} {fs7 : List Value} {P : ipQ} {mc ms : Nat} (e3 : h r_0 = some (.inl (0, n1, .inl f2))) (b4 : vp_in (x_3 + 1) n1) (b5 : vp_in (x_3 + 2) n1) (b6 : vp_in (x_3 + 3) n1) (e8 : h r_1 = some (.inr (8, fs7))) (m9 : c + mc ≤ MC) (m10 : s + ms ≤ MS) (hc : call 78 [(.ref r_1), (.int (f2 (x_3 + 1).toNatClampNeg)), (.int (f2 (x_3 + 2).toNatClampNeg)), (.int (f2 (x_3 + 3).toNatClampNeg))] h z mc ms P) (K : ∀ (o : Option Value) (h2 : HP) (z2 : Nat), P o h2 z2 → ip sc call 152 MC MS Q 233 [some (.ref r_0), some (.ref r_1), some (.ref r_2), some (.int x_3)] (o.toList ++ []) h2 z2 (c + mc) (s + ms)) : ip sc call 152 MC MS Q 214 [some (.ref r_0), some (.ref r_1), some (.ref r_2), some (.int x_3)] [] h z c s := by
  refine jp_load (pc2 := 215) (n := 1) rfl rfl rfl rfl ?_
  refine jp_load (pc2 := 216) (n := 0) rfl rfl rfl rfl ?_
  refine jp_load (pc2 := 217) (n := 3) rfl rfl rfl rfl ?_
  refine jp_con (pc2 := 218) (v := .int 1) rfl rfl rfl ?_
  refine jp_bin (pc2 := 219) (v := x_3 + 1) rfl rfl rfl ?_
  refine jp_iald (pc2 := 220) rfl rfl e3 b4 ?_
  refine jp_load (pc2 := 221) (n := 0) rfl rfl rfl rfl ?_
  refine jp_load (pc2 := 222) (n := 3) rfl rfl rfl rfl ?_
  refine jp_con (pc2 := 223) (v := .int 2) rfl rfl rfl ?_
  refine jp_bin (pc2 := 224) (v := x_3 + 2) rfl rfl rfl ?_
  refine jp_iald (pc2 := 225) rfl rfl e3 b5 ?_
  refine jp_load (pc2 := 226) (n := 0) rfl rfl rfl rfl ?_
  refine jp_load (pc2 := 227) (n := 3) rfl rfl rfl rfl ?_
  refine jp_con (pc2 := 228) (v := .int 3) rfl rfl rfl ?_
  refine jp_bin (pc2 := 229) (v := x_3 + 3) rfl rfl rfl ?_
  refine jp_iald (pc2 := 230) rfl rfl e3 b6 ?_
  exact jp_virt (pc2 := 233) (As := [(.int (f2 (x_3 + 1).toNatClampNeg)), (.int (f2 (x_3 + 2).toNatClampNeg)), (.int (f2 (x_3 + 3).toNatClampNeg))]) (rest := []) rfl rfl rfl (Nat.le_of_ble_eq_true rfl) e8 m9 m10 hc rfl K
set_option maxRecDepth 100000 in
theorem b152_233g {r_0 : Nat} {r_1 : Nat} {r_2 : Nat} {x_3 : Int32} {sx_0 : Int32} {n1 : Nat} {f2 : Nat → Int32} {fs7 : List Value} {P : ipQ} {mc ms : Nat} (e3 : h r_0 = some (.inl (0, n1, .inl f2))) (b4 : vp_in (x_3 + 1) n1) (b5 : vp_in (x_3 + 2) n1) (b6 : vp_in (x_3 + 3) n1) (e8 : h r_2 = some (.inr (9, fs7))) (m9 : c + mc ≤ MC) (m10 : s + ms ≤ MS) (hc : call 126 [(.ref r_2), (.int (f2 (x_3 + 1).toNatClampNeg)), (.int (f2 (x_3 + 2).toNatClampNeg)), (.int (f2 (x_3 + 3).toNatClampNeg))] h z mc ms P) (K : ∀ (o : Option Value) (h2 : HP) (z2 : Nat), P o h2 z2 → ip sc call 152 MC MS Q 252 [some (.ref r_0), some (.ref r_1), some (.ref r_2), some (.int x_3)] (o.toList ++ [(.int sx_0)]) h2 z2 (c + mc) (s + ms)) : ip sc call 152 MC MS Q 233 [some (.ref r_0), some (.ref r_1), some (.ref r_2), some (.int x_3)] [(.int sx_0)] h z c s := by
  refine jp_load (pc2 := 234) (n := 2) rfl rfl rfl rfl ?_
  refine jp_load (pc2 := 235) (n := 0) rfl rfl rfl rfl ?_
  refine jp_load (pc2 := 236) (n := 3) rfl rfl rfl rfl ?_
  refine jp_con (pc2 := 237) (v := .int 1) rfl rfl rfl ?_
  refine jp_bin (pc2 := 238) (v := x_3 + 1) rfl rfl rfl ?_
  refine jp_iald (pc2 := 239) rfl rfl e3 b4 ?_
  refine jp_load (pc2 := 240) (n := 0) rfl rfl rfl rfl ?_
  refine jp_load (pc2 := 241) (n := 3) rfl rfl rfl rfl ?_
  refine jp_con (pc2 := 242) (v := .int 2) rfl rfl rfl ?_
  refine jp_bin (pc2 := 243) (v := x_3 + 2) rfl rfl rfl ?_
  refine jp_iald (pc2 := 244) rfl rfl e3 b5 ?_
  refine jp_load (pc2 := 245) (n := 0) rfl rfl rfl rfl ?_
  refine jp_load (pc2 := 246) (n := 3) rfl rfl rfl rfl ?_
  refine jp_con (pc2 := 247) (v := .int 3) rfl rfl rfl ?_
  refine jp_bin (pc2 := 248) (v := x_3 + 3) rfl rfl rfl ?_
  refine jp_iald (pc2 := 249) rfl rfl e3 b6 ?_
  exact jp_virt (pc2 := 252) (As := [(.int (f2 (x_3 + 1).toNatClampNeg)), (.int (f2 (x_3 + 2).toNatClampNeg)), (.int (f2 (x_3 + 3).toNatClampNeg))]) (rest := [(.int sx_0)]) rfl rfl rfl (Nat.le_of_ble_eq_true rfl) e8 m9 m10 hc rfl K
set_option maxRecDepth 100000 in
theorem b152_252 {r_0 : Nat} {r_1 : Nat} {r_2 : Nat} {x_3 : Int32} {sx_0 : Int32} {sx_1 : Int32}  (K1 : sx_0 = sx_1 → ip sc call 152 MC MS Q 542 [some (.ref r_0), some (.ref r_1), some (.ref r_2), some (.int x_3)] [] h z c s) (K2 : ¬ (sx_0 = sx_1) → ip sc call 152 MC MS Q 255 [some (.ref r_0), some (.ref r_1), some (.ref r_2), some (.int x_3)] [] h z c s) : ip sc call 152 MC MS Q 252 [some (.ref r_0), some (.ref r_1), some (.ref r_2), some (.int x_3)] [(.int sx_1), (.int sx_0)] h z c s := by
  exact jp_icmp (pc2 := 255) rfl rfl K1 K2
set_option maxRecDepth 100000 in
theorem b152_255 {o_0 : Option Value} {o_1 : Option Value} {o_2 : Option Value} {o_3 : Option Value} (q1 : Q (some (.int 0)) h z)  : ip sc call 152 MC MS Q 255 [o_0, o_1, o_2, o_3] [] h z c s := by
  refine jp_con (pc2 := 256) (v := .int 0) rfl rfl rfl ?_
  exact ip_iret (st := []) rfl rfl rfl q1
set_option maxRecDepth 100000 in
theorem b152_257g {r_0 : Nat} {r_1 : Nat} {r_2 : Nat} {x_3 : Int32} {n1 : Nat} {f2 : Nat → Int32} {fs5 : List Value} {P : ipQ} {mc ms : Nat} (e3 : h r_0 = some (.inl (0, n1, .inl f2))) (b4 : vp_in (x_3 + 1) n1) (e6 : h r_1 = some (.inr (8, fs5))) (m7 : c + mc ≤ MC) (m8 : s + ms ≤ MS) (hc : call 79 [(.ref r_1), (.int (f2 (x_3 + 1).toNatClampNeg))] h z mc ms P) (K : ∀ (o : Option Value) (h2 : HP) (z2 : Nat), P o h2 z2 → ip sc call 152 MC MS Q 266 [some (.ref r_0), some (.ref r_1), some (.ref r_2), some (.int x_3)] (o.toList ++ []) h2 z2 (c + mc) (s + ms)) : ip sc call 152 MC MS Q 257 [some (.ref r_0), some (.ref r_1), some (.ref r_2), some (.int x_3)] [] h z c s := by
  refine jp_load (pc2 := 258) (n := 1) rfl rfl rfl rfl ?_
  refine jp_load (pc2 := 259) (n := 0) rfl rfl rfl rfl ?_
  refine jp_load (pc2 := 260) (n := 3) rfl rfl rfl rfl ?_
  refine jp_con (pc2 := 261) (v := .int 1) rfl rfl rfl ?_
  refine jp_bin (pc2 := 262) (v := x_3 + 1) rfl rfl rfl ?_
  refine jp_iald (pc2 := 263) rfl rfl e3 b4 ?_
  exact jp_virt (pc2 := 266) (As := [(.int (f2 (x_3 + 1).toNatClampNeg))]) (rest := []) rfl rfl rfl (Nat.le_of_ble_eq_true rfl) e6 m7 m8 hc rfl K
set_option maxRecDepth 100000 in
theorem b152_266g {r_0 : Nat} {r_1 : Nat} {r_2 : Nat} {x_3 : Int32} {sx_0 : Int32} {n1 : Nat} {f2 : Nat → Int32} {fs5 : List Value} {P : ipQ} {mc ms : Nat} (e3 : h r_0 = some (.inl (0, n1, .inl f2))) (b4 : vp_in (x_3 + 1) n1) (e6 : h r_2 = some (.inr (9, fs5))) (m7 : c + mc ≤ MC) (m8 : s + ms ≤ MS) (hc : call 127 [(.ref r_2), (.int (f2 (x_3 + 1).toNatClampNeg))] h z mc ms P) (K : ∀ (o : Option Value) (h2 : HP) (z2 : Nat), P o h2 z2 → ip sc call 152 MC MS Q 275 [some (.ref r_0), some (.ref r_1), some (.ref r_2), some (.int x_3)] (o.toList ++ [(.int sx_0)]) h2 z2 (c + mc) (s + ms)) : ip sc call 152 MC MS Q 266 [some (.ref r_0), some (.ref r_1), some (.ref r_2), some (.int x_3)] [(.int sx_0)] h z c s := by
  refine jp_load (pc2 := 267) (n := 2) rfl rfl rfl rfl ?_
  refine jp_load (pc2 := 268) (n := 0) rfl rfl rfl rfl ?_
  refine jp_load (pc2 := 269) (n := 3) rfl rfl rfl rfl ?_
  refine jp_con (pc2 := 270) (v := .int 1) rfl rfl rfl ?_
  refine jp_bin (pc2 := 271) (v := x_3 + 1) rfl rfl rfl ?_
  refine jp_iald (pc2 := 272) rfl rfl e3 b4 ?_
  exact jp_virt (pc2 := 275) (As := [(.int (f2 (x_3 + 1).toNatClampNeg))]) (rest := [(.int sx_0)]) rfl rfl rfl (Nat.le_of_ble_eq_true rfl) e6 m7 m8 hc rfl K
set_option maxRecDepth 100000 in
theorem b152_275 {r_0 : Nat} {r_1 : Nat} {r_2 : Nat} {x_3 : Int32} {sx_0 : Int32} {sx_1 : Int32}  (K1 : sx_0 = sx_1 → ip sc call 152 MC MS Q 542 [some (.ref r_0), some (.ref r_1), some (.ref r_2), some (.int x_3)] [] h z c s) (K2 : ¬ (sx_0 = sx_1) → ip sc call 152 MC MS Q 278 [some (.ref r_0), some (.ref r_1), some (.ref r_2), some (.int x_3)] [] h z c s) : ip sc call 152 MC MS Q 275 [some (.ref r_0), some (.ref r_1), some (.ref r_2), some (.int x_3)] [(.int sx_1), (.int sx_0)] h z c s := by
  exact jp_icmp (pc2 := 278) rfl rfl K1 K2
set_option maxRecDepth 100000 in
theorem b152_278 {o_0 : Option Value} {o_1 : Option Value} {o_2 : Option Value} {o_3 : Option Value} (q1 : Q (some (.int 0)) h z)  : ip sc call 152 MC MS Q 278 [o_0, o_1, o_2, o_3] [] h z c s := by
  refine jp_con (pc2 := 279) (v := .int 0) rfl rfl rfl ?_
  exact ip_iret (st := []) rfl rfl rfl q1
set_option maxRecDepth 100000 in
theorem b152_280g {r_0 : Nat} {r_1 : Nat} {r_2 : Nat} {x_3 : Int32} {n1 : Nat} {f2 : Nat → Int32} {fs10 : List Value} {P : ipQ} {mc ms : Nat} (e3 : h r_0 = some (.inl (0, n1, .inl f2))) (b4 : vp_in (x_3 + 1) n1) (b5 : vp_in (x_3 + 2) n1) (b6 : vp_in (x_3 + 3) n1) (b7 : vp_in (x_3 + 4) n1) (b8 : vp_in (x_3 + 5) n1) (b9 : vp_in (x_3 + 6) n1) (e11 : h r_1 = some (.inr (8, fs10))) (m12 : c + mc ≤ MC) (m13 : s + ms ≤ MS) (hc : call 80 [(.ref r_1), (.int (f2 (x_3 + 1).toNatClampNeg)), (.int (f2 (x_3 + 2).toNatClampNeg)), (.int (f2 (x_3 + 3).toNatClampNeg)), (.int (f2 (x_3 + 4).toNatClampNeg)), (.int (f2 (x_3 + 5).toNatClampNeg)), (.int (f2 (x_3 + 6).toNatClampNeg))] h z mc ms P) (K : ∀ (o : Option Value) (h2 : HP) (z2 : Nat), P o h2 z2 → ip sc call 152 MC MS Q 315 [some (.ref r_0), some (.ref r_1), some (.ref r_2), some (.int x_3)] (o.toList ++ []) h2 z2 (c + mc) (s + ms)) : ip sc call 152 MC MS Q 280 [some (.ref r_0), some (.ref r_1), some (.ref r_2), some (.int x_3)] [] h z c s := by
  refine jp_load (pc2 := 281) (n := 1) rfl rfl rfl rfl ?_
  refine jp_load (pc2 := 282) (n := 0) rfl rfl rfl rfl ?_
  refine jp_load (pc2 := 283) (n := 3) rfl rfl rfl rfl ?_
  refine jp_con (pc2 := 284) (v := .int 1) rfl rfl rfl ?_
  refine jp_bin (pc2 := 285) (v := x_3 + 1) rfl rfl rfl ?_
  refine jp_iald (pc2 := 286) rfl rfl e3 b4 ?_
  refine jp_load (pc2 := 287) (n := 0) rfl rfl rfl rfl ?_
  refine jp_load (pc2 := 288) (n := 3) rfl rfl rfl rfl ?_
  refine jp_con (pc2 := 289) (v := .int 2) rfl rfl rfl ?_
  refine jp_bin (pc2 := 290) (v := x_3 + 2) rfl rfl rfl ?_
  refine jp_iald (pc2 := 291) rfl rfl e3 b5 ?_
  refine jp_load (pc2 := 292) (n := 0) rfl rfl rfl rfl ?_
  refine jp_load (pc2 := 293) (n := 3) rfl rfl rfl rfl ?_
  refine jp_con (pc2 := 294) (v := .int 3) rfl rfl rfl ?_
  refine jp_bin (pc2 := 295) (v := x_3 + 3) rfl rfl rfl ?_
  refine jp_iald (pc2 := 296) rfl rfl e3 b6 ?_
  refine jp_load (pc2 := 297) (n := 0) rfl rfl rfl rfl ?_
  refine jp_load (pc2 := 298) (n := 3) rfl rfl rfl rfl ?_
  refine jp_con (pc2 := 299) (v := .int 4) rfl rfl rfl ?_
  refine jp_bin (pc2 := 300) (v := x_3 + 4) rfl rfl rfl ?_
  refine jp_iald (pc2 := 301) rfl rfl e3 b7 ?_
  refine jp_load (pc2 := 302) (n := 0) rfl rfl rfl rfl ?_
  refine jp_load (pc2 := 303) (n := 3) rfl rfl rfl rfl ?_
  refine jp_con (pc2 := 304) (v := .int 5) rfl rfl rfl ?_
  refine jp_bin (pc2 := 305) (v := x_3 + 5) rfl rfl rfl ?_
  refine jp_iald (pc2 := 306) rfl rfl e3 b8 ?_
  refine jp_load (pc2 := 307) (n := 0) rfl rfl rfl rfl ?_
  refine jp_load (pc2 := 308) (n := 3) rfl rfl rfl rfl ?_
  refine jp_con (pc2 := 310) (v := .int 6) rfl rfl rfl ?_
  refine jp_bin (pc2 := 311) (v := x_3 + 6) rfl rfl rfl ?_
  refine jp_iald (pc2 := 312) rfl rfl e3 b9 ?_
  exact jp_virt (pc2 := 315) (As := [(.int (f2 (x_3 + 1).toNatClampNeg)), (.int (f2 (x_3 + 2).toNatClampNeg)), (.int (f2 (x_3 + 3).toNatClampNeg)), (.int (f2 (x_3 + 4).toNatClampNeg)), (.int (f2 (x_3 + 5).toNatClampNeg)), (.int (f2 (x_3 + 6).toNatClampNeg))]) (rest := []) rfl rfl rfl (Nat.le_of_ble_eq_true rfl) e11 m12 m13 hc rfl K
set_option maxRecDepth 100000 in
theorem b152_315g {r_0 : Nat} {r_1 : Nat} {r_2 : Nat} {x_3 : Int32} {sx_0 : Int32} {n1 : Nat} {f2 : Nat → Int32} {fs10 : List Value} {P : ipQ} {mc ms : Nat} (e3 : h r_0 = some (.inl (0, n1, .inl f2))) (b4 : vp_in (x_3 + 1) n1) (b5 : vp_in (x_3 + 2) n1) (b6 : vp_in (x_3 + 3) n1) (b7 : vp_in (x_3 + 4) n1) (b8 : vp_in (x_3 + 5) n1) (b9 : vp_in (x_3 + 6) n1) (e11 : h r_2 = some (.inr (9, fs10))) (m12 : c + mc ≤ MC) (m13 : s + ms ≤ MS) (hc : call 129 [(.ref r_2), (.int (f2 (x_3 + 1).toNatClampNeg)), (.int (f2 (x_3 + 2).toNatClampNeg)), (.int (f2 (x_3 + 3).toNatClampNeg)), (.int (f2 (x_3 + 4).toNatClampNeg)), (.int (f2 (x_3 + 5).toNatClampNeg)), (.int (f2 (x_3 + 6).toNatClampNeg))] h z mc ms P) (K : ∀ (o : Option Value) (h2 : HP) (z2 : Nat), P o h2 z2 → ip sc call 152 MC MS Q 350 [some (.ref r_0), some (.ref r_1), some (.ref r_2), some (.int x_3)] (o.toList ++ [(.int sx_0)]) h2 z2 (c + mc) (s + ms)) : ip sc call 152 MC MS Q 315 [some (.ref r_0), some (.ref r_1), some (.ref r_2), some (.int x_3)] [(.int sx_0)] h z c s := by
  refine jp_load (pc2 := 316) (n := 2) rfl rfl rfl rfl ?_
  refine jp_load (pc2 := 317) (n := 0) rfl rfl rfl rfl ?_
  refine jp_load (pc2 := 318) (n := 3) rfl rfl rfl rfl ?_
  refine jp_con (pc2 := 319) (v := .int 1) rfl rfl rfl ?_
  refine jp_bin (pc2 := 320) (v := x_3 + 1) rfl rfl rfl ?_
  refine jp_iald (pc2 := 321) rfl rfl e3 b4 ?_
  refine jp_load (pc2 := 322) (n := 0) rfl rfl rfl rfl ?_
  refine jp_load (pc2 := 323) (n := 3) rfl rfl rfl rfl ?_
  refine jp_con (pc2 := 324) (v := .int 2) rfl rfl rfl ?_
  refine jp_bin (pc2 := 325) (v := x_3 + 2) rfl rfl rfl ?_
  refine jp_iald (pc2 := 326) rfl rfl e3 b5 ?_
  refine jp_load (pc2 := 327) (n := 0) rfl rfl rfl rfl ?_
  refine jp_load (pc2 := 328) (n := 3) rfl rfl rfl rfl ?_
  refine jp_con (pc2 := 329) (v := .int 3) rfl rfl rfl ?_
  refine jp_bin (pc2 := 330) (v := x_3 + 3) rfl rfl rfl ?_
  refine jp_iald (pc2 := 331) rfl rfl e3 b6 ?_
  refine jp_load (pc2 := 332) (n := 0) rfl rfl rfl rfl ?_
  refine jp_load (pc2 := 333) (n := 3) rfl rfl rfl rfl ?_
  refine jp_con (pc2 := 334) (v := .int 4) rfl rfl rfl ?_
  refine jp_bin (pc2 := 335) (v := x_3 + 4) rfl rfl rfl ?_
  refine jp_iald (pc2 := 336) rfl rfl e3 b7 ?_
  refine jp_load (pc2 := 337) (n := 0) rfl rfl rfl rfl ?_
  refine jp_load (pc2 := 338) (n := 3) rfl rfl rfl rfl ?_
  refine jp_con (pc2 := 339) (v := .int 5) rfl rfl rfl ?_
  refine jp_bin (pc2 := 340) (v := x_3 + 5) rfl rfl rfl ?_
  refine jp_iald (pc2 := 341) rfl rfl e3 b8 ?_
  refine jp_load (pc2 := 342) (n := 0) rfl rfl rfl rfl ?_
  refine jp_load (pc2 := 343) (n := 3) rfl rfl rfl rfl ?_
  refine jp_con (pc2 := 345) (v := .int 6) rfl rfl rfl ?_
  refine jp_bin (pc2 := 346) (v := x_3 + 6) rfl rfl rfl ?_
  refine jp_iald (pc2 := 347) rfl rfl e3 b9 ?_
  exact jp_virt (pc2 := 350) (As := [(.int (f2 (x_3 + 1).toNatClampNeg)), (.int (f2 (x_3 + 2).toNatClampNeg)), (.int (f2 (x_3 + 3).toNatClampNeg)), (.int (f2 (x_3 + 4).toNatClampNeg)), (.int (f2 (x_3 + 5).toNatClampNeg)), (.int (f2 (x_3 + 6).toNatClampNeg))]) (rest := [(.int sx_0)]) rfl rfl rfl (Nat.le_of_ble_eq_true rfl) e11 m12 m13 hc rfl K
set_option maxRecDepth 100000 in
theorem b152_350 {r_0 : Nat} {r_1 : Nat} {r_2 : Nat} {x_3 : Int32} {sx_0 : Int32} {sx_1 : Int32}  (K1 : sx_0 = sx_1 → ip sc call 152 MC MS Q 542 [some (.ref r_0), some (.ref r_1), some (.ref r_2), some (.int x_3)] [] h z c s) (K2 : ¬ (sx_0 = sx_1) → ip sc call 152 MC MS Q 353 [some (.ref r_0), some (.ref r_1), some (.ref r_2), some (.int x_3)] [] h z c s) : ip sc call 152 MC MS Q 350 [some (.ref r_0), some (.ref r_1), some (.ref r_2), some (.int x_3)] [(.int sx_1), (.int sx_0)] h z c s := by
  exact jp_icmp (pc2 := 353) rfl rfl K1 K2
set_option maxRecDepth 100000 in
theorem b152_353 {o_0 : Option Value} {o_1 : Option Value} {o_2 : Option Value} {o_3 : Option Value} (q1 : Q (some (.int 0)) h z)  : ip sc call 152 MC MS Q 353 [o_0, o_1, o_2, o_3] [] h z c s := by
  refine jp_con (pc2 := 354) (v := .int 0) rfl rfl rfl ?_
  exact ip_iret (st := []) rfl rfl rfl q1
set_option maxRecDepth 100000 in
theorem b152_355g {r_0 : Nat} {r_1 : Nat} {r_2 : Nat} {x_3 : Int32} {fs1 : List Value} {P : ipQ} {mc ms : Nat} (e2 : h r_1 = some (.inr (8, fs1))) (m3 : c + mc ≤ MC) (m4 : s + ms ≤ MS) (hc : call 81 [(.ref r_1)] h z mc ms P) (K : ∀ (o : Option Value) (h2 : HP) (z2 : Nat), P o h2 z2 → ip sc call 152 MC MS Q 359 [some (.ref r_0), some (.ref r_1), some (.ref r_2), some (.int x_3)] (o.toList ++ []) h2 z2 (c + mc) (s + ms)) : ip sc call 152 MC MS Q 355 [some (.ref r_0), some (.ref r_1), some (.ref r_2), some (.int x_3)] [] h z c s := by
  refine jp_load (pc2 := 356) (n := 1) rfl rfl rfl rfl ?_
  exact jp_virt (pc2 := 359) (As := []) (rest := []) rfl rfl rfl (Nat.le_of_ble_eq_true rfl) e2 m3 m4 hc rfl K
set_option maxRecDepth 100000 in
theorem b152_359g {r_0 : Nat} {r_1 : Nat} {r_2 : Nat} {x_3 : Int32} {sx_0 : Int32} {fs1 : List Value} {P : ipQ} {mc ms : Nat} (e2 : h r_2 = some (.inr (9, fs1))) (m3 : c + mc ≤ MC) (m4 : s + ms ≤ MS) (hc : call 130 [(.ref r_2)] h z mc ms P) (K : ∀ (o : Option Value) (h2 : HP) (z2 : Nat), P o h2 z2 → ip sc call 152 MC MS Q 363 [some (.ref r_0), some (.ref r_1), some (.ref r_2), some (.int x_3)] (o.toList ++ [(.int sx_0)]) h2 z2 (c + mc) (s + ms)) : ip sc call 152 MC MS Q 359 [some (.ref r_0), some (.ref r_1), some (.ref r_2), some (.int x_3)] [(.int sx_0)] h z c s := by
  refine jp_load (pc2 := 360) (n := 2) rfl rfl rfl rfl ?_
  exact jp_virt (pc2 := 363) (As := []) (rest := [(.int sx_0)]) rfl rfl rfl (Nat.le_of_ble_eq_true rfl) e2 m3 m4 hc rfl K
set_option maxRecDepth 100000 in
theorem b152_363 {r_0 : Nat} {r_1 : Nat} {r_2 : Nat} {x_3 : Int32} {sx_0 : Int32} {sx_1 : Int32}  (K1 : sx_0 = sx_1 → ip sc call 152 MC MS Q 542 [some (.ref r_0), some (.ref r_1), some (.ref r_2), some (.int x_3)] [] h z c s) (K2 : ¬ (sx_0 = sx_1) → ip sc call 152 MC MS Q 366 [some (.ref r_0), some (.ref r_1), some (.ref r_2), some (.int x_3)] [] h z c s) : ip sc call 152 MC MS Q 363 [some (.ref r_0), some (.ref r_1), some (.ref r_2), some (.int x_3)] [(.int sx_1), (.int sx_0)] h z c s := by
  exact jp_icmp (pc2 := 366) rfl rfl K1 K2
set_option maxRecDepth 100000 in
theorem b152_366 {o_0 : Option Value} {o_1 : Option Value} {o_2 : Option Value} {o_3 : Option Value} (q1 : Q (some (.int 0)) h z)  : ip sc call 152 MC MS Q 366 [o_0, o_1, o_2, o_3] [] h z c s := by
  refine jp_con (pc2 := 367) (v := .int 0) rfl rfl rfl ?_
  exact ip_iret (st := []) rfl rfl rfl q1
set_option maxRecDepth 100000 in
theorem b152_368g {r_0 : Nat} {r_1 : Nat} {r_2 : Nat} {x_3 : Int32} {n1 : Nat} {f2 : Nat → Int32} {fs5 : List Value} {P : ipQ} {mc ms : Nat} (e3 : h r_0 = some (.inl (0, n1, .inl f2))) (b4 : vp_in (x_3 + 1) n1) (e6 : h r_1 = some (.inr (8, fs5))) (m7 : c + mc ≤ MC) (m8 : s + ms ≤ MS) (hc : call 82 [(.ref r_1), (.int (f2 (x_3 + 1).toNatClampNeg))] h z mc ms P) (K : ∀ (o : Option Value) (h2 : HP) (z2 : Nat), P o h2 z2 → ip sc call 152 MC MS Q 377 [some (.ref r_0), some (.ref r_1), some (.ref r_2), some (.int x_3)] (o.toList ++ []) h2 z2 (c + mc) (s + ms)) : ip sc call 152 MC MS Q 368 [some (.ref r_0), some (.ref r_1), some (.ref r_2), some (.int x_3)] [] h z c s := by
  refine jp_load (pc2 := 369) (n := 1) rfl rfl rfl rfl ?_
  refine jp_load (pc2 := 370) (n := 0) rfl rfl rfl rfl ?_
  refine jp_load (pc2 := 371) (n := 3) rfl rfl rfl rfl ?_
  refine jp_con (pc2 := 372) (v := .int 1) rfl rfl rfl ?_
  refine jp_bin (pc2 := 373) (v := x_3 + 1) rfl rfl rfl ?_
  refine jp_iald (pc2 := 374) rfl rfl e3 b4 ?_
  exact jp_virt (pc2 := 377) (As := [(.int (f2 (x_3 + 1).toNatClampNeg))]) (rest := []) rfl rfl rfl (Nat.le_of_ble_eq_true rfl) e6 m7 m8 hc rfl K
set_option maxRecDepth 100000 in
theorem b152_377g {r_0 : Nat} {r_1 : Nat} {r_2 : Nat} {x_3 : Int32} {sx_0 : Int32} {n1 : Nat} {f2 : Nat → Int32} {fs5 : List Value} {P : ipQ} {mc ms : Nat} (e3 : h r_0 = some (.inl (0, n1, .inl f2))) (b4 : vp_in (x_3 + 1) n1) (e6 : h r_2 = some (.inr (9, fs5))) (m7 : c + mc ≤ MC) (m8 : s + ms ≤ MS) (hc : call 132 [(.ref r_2), (.int (f2 (x_3 + 1).toNatClampNeg))] h z mc ms P) (K : ∀ (o : Option Value) (h2 : HP) (z2 : Nat), P o h2 z2 → ip sc call 152 MC MS Q 386 [some (.ref r_0), some (.ref r_1), some (.ref r_2), some (.int x_3)] (o.toList ++ [(.int sx_0)]) h2 z2 (c + mc) (s + ms)) : ip sc call 152 MC MS Q 377 [some (.ref r_0), some (.ref r_1), some (.ref r_2), some (.int x_3)] [(.int sx_0)] h z c s := by
  refine jp_load (pc2 := 378) (n := 2) rfl rfl rfl rfl ?_
  refine jp_load (pc2 := 379) (n := 0) rfl rfl rfl rfl ?_
  refine jp_load (pc2 := 380) (n := 3) rfl rfl rfl rfl ?_
  refine jp_con (pc2 := 381) (v := .int 1) rfl rfl rfl ?_
  refine jp_bin (pc2 := 382) (v := x_3 + 1) rfl rfl rfl ?_
  refine jp_iald (pc2 := 383) rfl rfl e3 b4 ?_
  exact jp_virt (pc2 := 386) (As := [(.int (f2 (x_3 + 1).toNatClampNeg))]) (rest := [(.int sx_0)]) rfl rfl rfl (Nat.le_of_ble_eq_true rfl) e6 m7 m8 hc rfl K
set_option maxRecDepth 100000 in
theorem b152_386 {r_0 : Nat} {r_1 : Nat} {r_2 : Nat} {x_3 : Int32} {sx_0 : Int32} {sx_1 : Int32}  (K1 : sx_0 = sx_1 → ip sc call 152 MC MS Q 542 [some (.ref r_0), some (.ref r_1), some (.ref r_2), some (.int x_3)] [] h z c s) (K2 : ¬ (sx_0 = sx_1) → ip sc call 152 MC MS Q 389 [some (.ref r_0), some (.ref r_1), some (.ref r_2), some (.int x_3)] [] h z c s) : ip sc call 152 MC MS Q 386 [some (.ref r_0), some (.ref r_1), some (.ref r_2), some (.int x_3)] [(.int sx_1), (.int sx_0)] h z c s := by
  exact jp_icmp (pc2 := 389) rfl rfl K1 K2
set_option maxRecDepth 100000 in
theorem b152_389 {o_0 : Option Value} {o_1 : Option Value} {o_2 : Option Value} {o_3 : Option Value} (q1 : Q (some (.int 0)) h z)  : ip sc call 152 MC MS Q 389 [o_0, o_1, o_2, o_3] [] h z c s := by
  refine jp_con (pc2 := 390) (v := .int 0) rfl rfl rfl ?_
  exact ip_iret (st := []) rfl rfl rfl q1
set_option maxRecDepth 100000 in
theorem b152_391g {r_0 : Nat} {r_1 : Nat} {r_2 : Nat} {x_3 : Int32} {n1 : Nat} {f2 : Nat → Int32} {fs6 : List Value} {P : ipQ} {mc ms : Nat} (e3 : h r_0 = some (.inl (0, n1, .inl f2))) (b4 : vp_in (x_3 + 1) n1) (b5 : vp_in (x_3 + 2) n1) (e7 : h r_1 = some (.inr (8, fs6))) (m8 : c + mc ≤ MC) (m9 : s + ms ≤ MS) (hc : call 83 [(.ref r_1), (.int (f2 (x_3 + 1).toNatClampNeg)), (.int (f2 (x_3 + 2).toNatClampNeg))] h z mc ms P) (K : ∀ (o : Option Value) (h2 : HP) (z2 : Nat), P o h2 z2 → ip sc call 152 MC MS Q 405 [some (.ref r_0), some (.ref r_1), some (.ref r_2), some (.int x_3)] (o.toList ++ []) h2 z2 (c + mc) (s + ms)) : ip sc call 152 MC MS Q 391 [some (.ref r_0), some (.ref r_1), some (.ref r_2), some (.int x_3)] [] h z c s := by
  refine jp_load (pc2 := 392) (n := 1) rfl rfl rfl rfl ?_
  refine jp_load (pc2 := 393) (n := 0) rfl rfl rfl rfl ?_
  refine jp_load (pc2 := 394) (n := 3) rfl rfl rfl rfl ?_
  refine jp_con (pc2 := 395) (v := .int 1) rfl rfl rfl ?_
  refine jp_bin (pc2 := 396) (v := x_3 + 1) rfl rfl rfl ?_
  refine jp_iald (pc2 := 397) rfl rfl e3 b4 ?_
  refine jp_load (pc2 := 398) (n := 0) rfl rfl rfl rfl ?_
  refine jp_load (pc2 := 399) (n := 3) rfl rfl rfl rfl ?_
  refine jp_con (pc2 := 400) (v := .int 2) rfl rfl rfl ?_
  refine jp_bin (pc2 := 401) (v := x_3 + 2) rfl rfl rfl ?_
  refine jp_iald (pc2 := 402) rfl rfl e3 b5 ?_
  exact jp_virt (pc2 := 405) (As := [(.int (f2 (x_3 + 1).toNatClampNeg)), (.int (f2 (x_3 + 2).toNatClampNeg))]) (rest := []) rfl rfl rfl (Nat.le_of_ble_eq_true rfl) e7 m8 m9 hc rfl K
set_option maxRecDepth 100000 in
theorem b152_405g {r_0 : Nat} {r_1 : Nat} {r_2 : Nat} {x_3 : Int32} {sx_0 : Int32} {n1 : Nat} {f2 : Nat → Int32} {fs6 : List Value} {P : ipQ} {mc ms : Nat} (e3 : h r_0 = some (.inl (0, n1, .inl f2))) (b4 : vp_in (x_3 + 1) n1) (b5 : vp_in (x_3 + 2) n1) (e7 : h r_2 = some (.inr (9, fs6))) (m8 : c + mc ≤ MC) (m9 : s + ms ≤ MS) (hc : call 133 [(.ref r_2), (.int (f2 (x_3 + 1).toNatClampNeg)), (.int (f2 (x_3 + 2).toNatClampNeg))] h z mc ms P) (K : ∀ (o : Option Value) (h2 : HP) (z2 : Nat), P o h2 z2 → ip sc call 152 MC MS Q 419 [some (.ref r_0), some (.ref r_1), some (.ref r_2), some (.int x_3)] (o.toList ++ [(.int sx_0)]) h2 z2 (c + mc) (s + ms)) : ip sc call 152 MC MS Q 405 [some (.ref r_0), some (.ref r_1), some (.ref r_2), some (.int x_3)] [(.int sx_0)] h z c s := by
  refine jp_load (pc2 := 406) (n := 2) rfl rfl rfl rfl ?_
  refine jp_load (pc2 := 407) (n := 0) rfl rfl rfl rfl ?_
  refine jp_load (pc2 := 408) (n := 3) rfl rfl rfl rfl ?_
  refine jp_con (pc2 := 409) (v := .int 1) rfl rfl rfl ?_
  refine jp_bin (pc2 := 410) (v := x_3 + 1) rfl rfl rfl ?_
  refine jp_iald (pc2 := 411) rfl rfl e3 b4 ?_
  refine jp_load (pc2 := 412) (n := 0) rfl rfl rfl rfl ?_
  refine jp_load (pc2 := 413) (n := 3) rfl rfl rfl rfl ?_
  refine jp_con (pc2 := 414) (v := .int 2) rfl rfl rfl ?_
  refine jp_bin (pc2 := 415) (v := x_3 + 2) rfl rfl rfl ?_
  refine jp_iald (pc2 := 416) rfl rfl e3 b5 ?_
  exact jp_virt (pc2 := 419) (As := [(.int (f2 (x_3 + 1).toNatClampNeg)), (.int (f2 (x_3 + 2).toNatClampNeg))]) (rest := [(.int sx_0)]) rfl rfl rfl (Nat.le_of_ble_eq_true rfl) e7 m8 m9 hc rfl K
set_option maxRecDepth 100000 in
theorem b152_419 {r_0 : Nat} {r_1 : Nat} {r_2 : Nat} {x_3 : Int32} {sx_0 : Int32} {sx_1 : Int32}  (K1 : sx_0 = sx_1 → ip sc call 152 MC MS Q 542 [some (.ref r_0), some (.ref r_1), some (.ref r_2), some (.int x_3)] [] h z c s) (K2 : ¬ (sx_0 = sx_1) → ip sc call 152 MC MS Q 422 [some (.ref r_0), some (.ref r_1), some (.ref r_2), some (.int x_3)] [] h z c s) : ip sc call 152 MC MS Q 419 [some (.ref r_0), some (.ref r_1), some (.ref r_2), some (.int x_3)] [(.int sx_1), (.int sx_0)] h z c s := by
  exact jp_icmp (pc2 := 422) rfl rfl K1 K2
set_option maxRecDepth 100000 in
theorem b152_422 {o_0 : Option Value} {o_1 : Option Value} {o_2 : Option Value} {o_3 : Option Value} (q1 : Q (some (.int 0)) h z)  : ip sc call 152 MC MS Q 422 [o_0, o_1, o_2, o_3] [] h z c s := by
  refine jp_con (pc2 := 423) (v := .int 0) rfl rfl rfl ?_
  exact ip_iret (st := []) rfl rfl rfl q1
set_option maxRecDepth 100000 in
theorem b152_424g {r_0 : Nat} {r_1 : Nat} {r_2 : Nat} {x_3 : Int32} {fs1 : List Value} {P : ipQ} {mc ms : Nat} (e2 : h r_1 = some (.inr (8, fs1))) (m3 : c + mc ≤ MC) (m4 : s + ms ≤ MS) (hc : call 84 [(.ref r_1)] h z mc ms P) (K : ∀ (o : Option Value) (h2 : HP) (z2 : Nat), P o h2 z2 → ip sc call 152 MC MS Q 428 [some (.ref r_0), some (.ref r_1), some (.ref r_2), some (.int x_3)] (o.toList ++ []) h2 z2 (c + mc) (s + ms)) : ip sc call 152 MC MS Q 424 [some (.ref r_0), some (.ref r_1), some (.ref r_2), some (.int x_3)] [] h z c s := by
  refine jp_load (pc2 := 425) (n := 1) rfl rfl rfl rfl ?_
  exact jp_virt (pc2 := 428) (As := []) (rest := []) rfl rfl rfl (Nat.le_of_ble_eq_true rfl) e2 m3 m4 hc rfl K
set_option maxRecDepth 100000 in
theorem b152_428g {r_0 : Nat} {r_1 : Nat} {r_2 : Nat} {x_3 : Int32} {sx_0 : Int32} {fs1 : List Value} {P : ipQ} {mc ms : Nat} (e2 : h r_2 = some (.inr (9, fs1))) (m3 : c + mc ≤ MC) (m4 : s + ms ≤ MS) (hc : call 134 [(.ref r_2)] h z mc ms P) (K : ∀ (o : Option Value) (h2 : HP) (z2 : Nat), P o h2 z2 → ip sc call 152 MC MS Q 432 [some (.ref r_0), some (.ref r_1), some (.ref r_2), some (.int x_3)] (o.toList ++ [(.int sx_0)]) h2 z2 (c + mc) (s + ms)) : ip sc call 152 MC MS Q 428 [some (.ref r_0), some (.ref r_1), some (.ref r_2), some (.int x_3)] [(.int sx_0)] h z c s := by
  refine jp_load (pc2 := 429) (n := 2) rfl rfl rfl rfl ?_
  exact jp_virt (pc2 := 432) (As := []) (rest := [(.int sx_0)]) rfl rfl rfl (Nat.le_of_ble_eq_true rfl) e2 m3 m4 hc rfl K
set_option maxRecDepth 100000 in
theorem b152_432 {r_0 : Nat} {r_1 : Nat} {r_2 : Nat} {x_3 : Int32} {sx_0 : Int32} {sx_1 : Int32}  (K1 : sx_0 = sx_1 → ip sc call 152 MC MS Q 542 [some (.ref r_0), some (.ref r_1), some (.ref r_2), some (.int x_3)] [] h z c s) (K2 : ¬ (sx_0 = sx_1) → ip sc call 152 MC MS Q 435 [some (.ref r_0), some (.ref r_1), some (.ref r_2), some (.int x_3)] [] h z c s) : ip sc call 152 MC MS Q 432 [some (.ref r_0), some (.ref r_1), some (.ref r_2), some (.int x_3)] [(.int sx_1), (.int sx_0)] h z c s := by
  exact jp_icmp (pc2 := 435) rfl rfl K1 K2
set_option maxRecDepth 100000 in
theorem b152_435 {o_0 : Option Value} {o_1 : Option Value} {o_2 : Option Value} {o_3 : Option Value} (q1 : Q (some (.int 0)) h z)  : ip sc call 152 MC MS Q 435 [o_0, o_1, o_2, o_3] [] h z c s := by
  refine jp_con (pc2 := 436) (v := .int 0) rfl rfl rfl ?_
  exact ip_iret (st := []) rfl rfl rfl q1
set_option maxRecDepth 100000 in
theorem b152_437g {r_0 : Nat} {r_1 : Nat} {r_2 : Nat} {x_3 : Int32} {n1 : Nat} {f2 : Nat → Int32} {fs6 : List Value} {P : ipQ} {mc ms : Nat} (e3 : h r_0 = some (.inl (0, n1, .inl f2))) (b4 : vp_in (x_3 + 1) n1) (b5 : vp_in (x_3 + 2) n1) (e7 : h r_1 = some (.inr (8, fs6))) (m8 : c + mc ≤ MC) (m9 : s + ms ≤ MS) (hc : call 85 [(.ref r_1), (.int (f2 (x_3 + 1).toNatClampNeg)), (.int (f2 (x_3 + 2).toNatClampNeg))] h z mc ms P) (K : ∀ (o : Option Value) (h2 : HP) (z2 : Nat), P o h2 z2 → ip sc call 152 MC MS Q 451 [some (.ref r_0), some (.ref r_1), some (.ref r_2), some (.int x_3)] (o.toList ++ []) h2 z2 (c + mc) (s + ms)) : ip sc call 152 MC MS Q 437 [some (.ref r_0), some (.ref r_1), some (.ref r_2), some (.int x_3)] [] h z c s := by
  refine jp_load (pc2 := 438) (n := 1) rfl rfl rfl rfl ?_
  refine jp_load (pc2 := 439) (n := 0) rfl rfl rfl rfl ?_
  refine jp_load (pc2 := 440) (n := 3) rfl rfl rfl rfl ?_
  refine jp_con (pc2 := 441) (v := .int 1) rfl rfl rfl ?_
  refine jp_bin (pc2 := 442) (v := x_3 + 1) rfl rfl rfl ?_
  refine jp_iald (pc2 := 443) rfl rfl e3 b4 ?_
  refine jp_load (pc2 := 444) (n := 0) rfl rfl rfl rfl ?_
  refine jp_load (pc2 := 445) (n := 3) rfl rfl rfl rfl ?_
  refine jp_con (pc2 := 446) (v := .int 2) rfl rfl rfl ?_
  refine jp_bin (pc2 := 447) (v := x_3 + 2) rfl rfl rfl ?_
  refine jp_iald (pc2 := 448) rfl rfl e3 b5 ?_
  exact jp_virt (pc2 := 451) (As := [(.int (f2 (x_3 + 1).toNatClampNeg)), (.int (f2 (x_3 + 2).toNatClampNeg))]) (rest := []) rfl rfl rfl (Nat.le_of_ble_eq_true rfl) e7 m8 m9 hc rfl K
set_option maxRecDepth 100000 in
theorem b152_451g {r_0 : Nat} {r_1 : Nat} {r_2 : Nat} {x_3 : Int32} {sx_0 : Int32} {n1 : Nat} {f2 : Nat → Int32} {fs6 : List Value} {P : ipQ} {mc ms : Nat} (e3 : h r_0 = some (.inl (0, n1, .inl f2))) (b4 : vp_in (x_3 + 1) n1) (b5 : vp_in (x_3 + 2) n1) (e7 : h r_2 = some (.inr (9, fs6))) (m8 : c + mc ≤ MC) (m9 : s + ms ≤ MS) (hc : call 135 [(.ref r_2), (.int (f2 (x_3 + 1).toNatClampNeg)), (.int (f2 (x_3 + 2).toNatClampNeg))] h z mc ms P) (K : ∀ (o : Option Value) (h2 : HP) (z2 : Nat), P o h2 z2 → ip sc call 152 MC MS Q 465 [some (.ref r_0), some (.ref r_1), some (.ref r_2), some (.int x_3)] (o.toList ++ [(.int sx_0)]) h2 z2 (c + mc) (s + ms)) : ip sc call 152 MC MS Q 451 [some (.ref r_0), some (.ref r_1), some (.ref r_2), some (.int x_3)] [(.int sx_0)] h z c s := by
  refine jp_load (pc2 := 452) (n := 2) rfl rfl rfl rfl ?_
  refine jp_load (pc2 := 453) (n := 0) rfl rfl rfl rfl ?_
  refine jp_load (pc2 := 454) (n := 3) rfl rfl rfl rfl ?_
  refine jp_con (pc2 := 455) (v := .int 1) rfl rfl rfl ?_
  refine jp_bin (pc2 := 456) (v := x_3 + 1) rfl rfl rfl ?_
  refine jp_iald (pc2 := 457) rfl rfl e3 b4 ?_
  refine jp_load (pc2 := 458) (n := 0) rfl rfl rfl rfl ?_
  refine jp_load (pc2 := 459) (n := 3) rfl rfl rfl rfl ?_
  refine jp_con (pc2 := 460) (v := .int 2) rfl rfl rfl ?_
  refine jp_bin (pc2 := 461) (v := x_3 + 2) rfl rfl rfl ?_
  refine jp_iald (pc2 := 462) rfl rfl e3 b5 ?_
  exact jp_virt (pc2 := 465) (As := [(.int (f2 (x_3 + 1).toNatClampNeg)), (.int (f2 (x_3 + 2).toNatClampNeg))]) (rest := [(.int sx_0)]) rfl rfl rfl (Nat.le_of_ble_eq_true rfl) e7 m8 m9 hc rfl K
set_option maxRecDepth 100000 in
theorem b152_465 {r_0 : Nat} {r_1 : Nat} {r_2 : Nat} {x_3 : Int32} {sx_0 : Int32} {sx_1 : Int32}  (K1 : sx_0 = sx_1 → ip sc call 152 MC MS Q 542 [some (.ref r_0), some (.ref r_1), some (.ref r_2), some (.int x_3)] [] h z c s) (K2 : ¬ (sx_0 = sx_1) → ip sc call 152 MC MS Q 468 [some (.ref r_0), some (.ref r_1), some (.ref r_2), some (.int x_3)] [] h z c s) : ip sc call 152 MC MS Q 465 [some (.ref r_0), some (.ref r_1), some (.ref r_2), some (.int x_3)] [(.int sx_1), (.int sx_0)] h z c s := by
  exact jp_icmp (pc2 := 468) rfl rfl K1 K2
set_option maxRecDepth 100000 in
theorem b152_468 {o_0 : Option Value} {o_1 : Option Value} {o_2 : Option Value} {o_3 : Option Value} (q1 : Q (some (.int 0)) h z)  : ip sc call 152 MC MS Q 468 [o_0, o_1, o_2, o_3] [] h z c s := by
  refine jp_con (pc2 := 469) (v := .int 0) rfl rfl rfl ?_
  exact ip_iret (st := []) rfl rfl rfl q1
set_option maxRecDepth 100000 in
theorem b152_470g {r_0 : Nat} {r_1 : Nat} {r_2 : Nat} {x_3 : Int32} {fs1 : List Value} {P : ipQ} {mc ms : Nat} (e2 : h r_1 = some (.inr (8, fs1))) (m3 : c + mc ≤ MC) (m4 : s + ms ≤ MS) (hc : call 86 [(.ref r_1)] h z mc ms P) (K : ∀ (o : Option Value) (h2 : HP) (z2 : Nat), P o h2 z2 → ip sc call 152 MC MS Q 474 [some (.ref r_0), some (.ref r_1), some (.ref r_2), some (.int x_3)] (o.toList ++ []) h2 z2 (c + mc) (s + ms)) : ip sc call 152 MC MS Q 470 [some (.ref r_0), some (.ref r_1), some (.ref r_2), some (.int x_3)] [] h z c s := by
  refine jp_load (pc2 := 471) (n := 1) rfl rfl rfl rfl ?_
  exact jp_virt (pc2 := 474) (As := []) (rest := []) rfl rfl rfl (Nat.le_of_ble_eq_true rfl) e2 m3 m4 hc rfl K
set_option maxRecDepth 100000 in
theorem b152_474g {r_0 : Nat} {r_1 : Nat} {r_2 : Nat} {x_3 : Int32} {sx_0 : Int32} {fs1 : List Value} {P : ipQ} {mc ms : Nat} (e2 : h r_2 = some (.inr (9, fs1))) (m3 : c + mc ≤ MC) (m4 : s + ms ≤ MS) (hc : call 147 [(.ref r_2)] h z mc ms P) (K : ∀ (o : Option Value) (h2 : HP) (z2 : Nat), P o h2 z2 → ip sc call 152 MC MS Q 478 [some (.ref r_0), some (.ref r_1), some (.ref r_2), some (.int x_3)] (o.toList ++ [(.int sx_0)]) h2 z2 (c + mc) (s + ms)) : ip sc call 152 MC MS Q 474 [some (.ref r_0), some (.ref r_1), some (.ref r_2), some (.int x_3)] [(.int sx_0)] h z c s := by
  refine jp_load (pc2 := 475) (n := 2) rfl rfl rfl rfl ?_
  exact jp_virt (pc2 := 478) (As := []) (rest := [(.int sx_0)]) rfl rfl rfl (Nat.le_of_ble_eq_true rfl) e2 m3 m4 hc rfl K
set_option maxRecDepth 100000 in
theorem b152_478 {r_0 : Nat} {r_1 : Nat} {r_2 : Nat} {x_3 : Int32} {sx_0 : Int32} {sx_1 : Int32}  (K1 : sx_0 = sx_1 → ip sc call 152 MC MS Q 542 [some (.ref r_0), some (.ref r_1), some (.ref r_2), some (.int x_3)] [] h z c s) (K2 : ¬ (sx_0 = sx_1) → ip sc call 152 MC MS Q 481 [some (.ref r_0), some (.ref r_1), some (.ref r_2), some (.int x_3)] [] h z c s) : ip sc call 152 MC MS Q 478 [some (.ref r_0), some (.ref r_1), some (.ref r_2), some (.int x_3)] [(.int sx_1), (.int sx_0)] h z c s := by
  exact jp_icmp (pc2 := 481) rfl rfl K1 K2
set_option maxRecDepth 100000 in
theorem b152_481 {o_0 : Option Value} {o_1 : Option Value} {o_2 : Option Value} {o_3 : Option Value} (q1 : Q (some (.int 0)) h z)  : ip sc call 152 MC MS Q 481 [o_0, o_1, o_2, o_3] [] h z c s := by
  refine jp_con (pc2 := 482) (v := .int 0) rfl rfl rfl ?_
  exact ip_iret (st := []) rfl rfl rfl q1
set_option maxRecDepth 100000 in
theorem b152_483g {r_0 : Nat} {r_1 : Nat} {r_2 : Nat} {x_3 : Int32} {fs1 : List Value} {P : ipQ} {mc ms : Nat} (e2 : h r_1 = some (.inr (8, fs1))) (m3 : c + mc ≤ MC) (m4 : s + ms ≤ MS) (hc : call 87 [(.ref r_1)] h z mc ms P) (K : ∀ (o : Option Value) (h2 : HP) (z2 : Nat), P o h2 z2 → ip sc call 152 MC MS Q 487 [some (.ref r_0), some (.ref r_1), some (.ref r_2), some (.int x_3)] (o.toList ++ []) h2 z2 (c + mc) (s + ms)) : ip sc call 152 MC MS Q 483 [some (.ref r_0), some (.ref r_1), some (.ref r_2), some (.int x_3)] [] h z c s := by
  refine jp_load (pc2 := 484) (n := 1) rfl rfl rfl rfl ?_
  exact jp_virt (pc2 := 487) (As := []) (rest := []) rfl rfl rfl (Nat.le_of_ble_eq_true rfl) e2 m3 m4 hc rfl K
set_option maxRecDepth 100000 in
theorem b152_487g {r_0 : Nat} {r_1 : Nat} {r_2 : Nat} {x_3 : Int32} {sx_0 : Int32} {fs1 : List Value} {P : ipQ} {mc ms : Nat} (e2 : h r_2 = some (.inr (9, fs1))) (m3 : c + mc ≤ MC) (m4 : s + ms ≤ MS) (hc : call 148 [(.ref r_2)] h z mc ms P) (K : ∀ (o : Option Value) (h2 : HP) (z2 : Nat), P o h2 z2 → ip sc call 152 MC MS Q 491 [some (.ref r_0), some (.ref r_1), some (.ref r_2), some (.int x_3)] (o.toList ++ [(.int sx_0)]) h2 z2 (c + mc) (s + ms)) : ip sc call 152 MC MS Q 487 [some (.ref r_0), some (.ref r_1), some (.ref r_2), some (.int x_3)] [(.int sx_0)] h z c s := by
  refine jp_load (pc2 := 488) (n := 2) rfl rfl rfl rfl ?_
  exact jp_virt (pc2 := 491) (As := []) (rest := [(.int sx_0)]) rfl rfl rfl (Nat.le_of_ble_eq_true rfl) e2 m3 m4 hc rfl K
set_option maxRecDepth 100000 in
theorem b152_491 {r_0 : Nat} {r_1 : Nat} {r_2 : Nat} {x_3 : Int32} {sx_0 : Int32} {sx_1 : Int32}  (K1 : sx_0 = sx_1 → ip sc call 152 MC MS Q 542 [some (.ref r_0), some (.ref r_1), some (.ref r_2), some (.int x_3)] [] h z c s) (K2 : ¬ (sx_0 = sx_1) → ip sc call 152 MC MS Q 494 [some (.ref r_0), some (.ref r_1), some (.ref r_2), some (.int x_3)] [] h z c s) : ip sc call 152 MC MS Q 491 [some (.ref r_0), some (.ref r_1), some (.ref r_2), some (.int x_3)] [(.int sx_1), (.int sx_0)] h z c s := by
  exact jp_icmp (pc2 := 494) rfl rfl K1 K2
set_option maxRecDepth 100000 in
theorem b152_494 {o_0 : Option Value} {o_1 : Option Value} {o_2 : Option Value} {o_3 : Option Value} (q1 : Q (some (.int 0)) h z)  : ip sc call 152 MC MS Q 494 [o_0, o_1, o_2, o_3] [] h z c s := by
  refine jp_con (pc2 := 495) (v := .int 0) rfl rfl rfl ?_
  exact ip_iret (st := []) rfl rfl rfl q1
set_option maxRecDepth 100000 in
theorem b152_496g {r_0 : Nat} {r_1 : Nat} {r_2 : Nat} {x_3 : Int32} {n1 : Nat} {f2 : Nat → Int32} {fs5 : List Value} {P : ipQ} {mc ms : Nat} (e3 : h r_0 = some (.inl (0, n1, .inl f2))) (b4 : vp_in (x_3 + 1) n1) (e6 : h r_1 = some (.inr (8, fs5))) (m7 : c + mc ≤ MC) (m8 : s + ms ≤ MS) (hc : call 89 [(.ref r_1), (.int (f2 (x_3 + 1).toNatClampNeg))] h z mc ms P) (K : ∀ (o : Option Value) (h2 : HP) (z2 : Nat), P o h2 z2 → ip sc call 152 MC MS Q 505 [some (.ref r_0), some (.ref r_1), some (.ref r_2), some (.int x_3)] (o.toList ++ []) h2 z2 (c + mc) (s + ms)) : ip sc call 152 MC MS Q 496 [some (.ref r_0), some (.ref r_1), some (.ref r_2), some (.int x_3)] [] h z c s := by
  refine jp_load (pc2 := 497) (n := 1) rfl rfl rfl rfl ?_
  refine jp_load (pc2 := 498) (n := 0) rfl rfl rfl rfl ?_
  refine jp_load (pc2 := 499) (n := 3) rfl rfl rfl rfl ?_
  refine jp_con (pc2 := 500) (v := .int 1) rfl rfl rfl ?_
  refine jp_bin (pc2 := 501) (v := x_3 + 1) rfl rfl rfl ?_
  refine jp_iald (pc2 := 502) rfl rfl e3 b4 ?_
  exact jp_virt (pc2 := 505) (As := [(.int (f2 (x_3 + 1).toNatClampNeg))]) (rest := []) rfl rfl rfl (Nat.le_of_ble_eq_true rfl) e6 m7 m8 hc rfl K
set_option maxRecDepth 100000 in
theorem b152_505g {r_0 : Nat} {r_1 : Nat} {r_2 : Nat} {x_3 : Int32} {sx_0 : Int32} {n1 : Nat} {f2 : Nat → Int32} {fs5 : List Value} {P : ipQ} {mc ms : Nat} (e3 : h r_0 = some (.inl (0, n1, .inl f2))) (b4 : vp_in (x_3 + 1) n1) (e6 : h r_2 = some (.inr (9, fs5))) (m7 : c + mc ≤ MC) (m8 : s + ms ≤ MS) (hc : call 149 [(.ref r_2), (.int (f2 (x_3 + 1).toNatClampNeg))] h z mc ms P) (K : ∀ (o : Option Value) (h2 : HP) (z2 : Nat), P o h2 z2 → ip sc call 152 MC MS Q 514 [some (.ref r_0), some (.ref r_1), some (.ref r_2), some (.int x_3)] (o.toList ++ [(.int sx_0)]) h2 z2 (c + mc) (s + ms)) : ip sc call 152 MC MS Q 505 [some (.ref r_0), some (.ref r_1), some (.ref r_2), some (.int x_3)] [(.int sx_0)] h z c s := by
  refine jp_load (pc2 := 506) (n := 2) rfl rfl rfl rfl ?_
  refine jp_load (pc2 := 507) (n := 0) rfl rfl rfl rfl ?_
  refine jp_load (pc2 := 508) (n := 3) rfl rfl rfl rfl ?_
  refine jp_con (pc2 := 509) (v := .int 1) rfl rfl rfl ?_
  refine jp_bin (pc2 := 510) (v := x_3 + 1) rfl rfl rfl ?_
  refine jp_iald (pc2 := 511) rfl rfl e3 b4 ?_
  exact jp_virt (pc2 := 514) (As := [(.int (f2 (x_3 + 1).toNatClampNeg))]) (rest := [(.int sx_0)]) rfl rfl rfl (Nat.le_of_ble_eq_true rfl) e6 m7 m8 hc rfl K
set_option maxRecDepth 100000 in
theorem b152_514 {r_0 : Nat} {r_1 : Nat} {r_2 : Nat} {x_3 : Int32} {sx_0 : Int32} {sx_1 : Int32}  (K1 : sx_0 = sx_1 → ip sc call 152 MC MS Q 542 [some (.ref r_0), some (.ref r_1), some (.ref r_2), some (.int x_3)] [] h z c s) (K2 : ¬ (sx_0 = sx_1) → ip sc call 152 MC MS Q 517 [some (.ref r_0), some (.ref r_1), some (.ref r_2), some (.int x_3)] [] h z c s) : ip sc call 152 MC MS Q 514 [some (.ref r_0), some (.ref r_1), some (.ref r_2), some (.int x_3)] [(.int sx_1), (.int sx_0)] h z c s := by
  exact jp_icmp (pc2 := 517) rfl rfl K1 K2
set_option maxRecDepth 100000 in
theorem b152_517 {o_0 : Option Value} {o_1 : Option Value} {o_2 : Option Value} {o_3 : Option Value} (q1 : Q (some (.int 0)) h z)  : ip sc call 152 MC MS Q 517 [o_0, o_1, o_2, o_3] [] h z c s := by
  refine jp_con (pc2 := 518) (v := .int 0) rfl rfl rfl ?_
  exact ip_iret (st := []) rfl rfl rfl q1
set_option maxRecDepth 100000 in
theorem b152_519g {r_0 : Nat} {r_1 : Nat} {r_2 : Nat} {x_3 : Int32} {n1 : Nat} {f2 : Nat → Int32} {fs5 : List Value} {P : ipQ} {mc ms : Nat} (e3 : h r_0 = some (.inl (0, n1, .inl f2))) (b4 : vp_in (x_3 + 1) n1) (e6 : h r_1 = some (.inr (8, fs5))) (m7 : c + mc ≤ MC) (m8 : s + ms ≤ MS) (hc : call 90 [(.ref r_1), (.int (f2 (x_3 + 1).toNatClampNeg))] h z mc ms P) (K : ∀ (o : Option Value) (h2 : HP) (z2 : Nat), P o h2 z2 → ip sc call 152 MC MS Q 528 [some (.ref r_0), some (.ref r_1), some (.ref r_2), some (.int x_3)] (o.toList ++ []) h2 z2 (c + mc) (s + ms)) : ip sc call 152 MC MS Q 519 [some (.ref r_0), some (.ref r_1), some (.ref r_2), some (.int x_3)] [] h z c s := by
  refine jp_load (pc2 := 520) (n := 1) rfl rfl rfl rfl ?_
  refine jp_load (pc2 := 521) (n := 0) rfl rfl rfl rfl ?_
  refine jp_load (pc2 := 522) (n := 3) rfl rfl rfl rfl ?_
  refine jp_con (pc2 := 523) (v := .int 1) rfl rfl rfl ?_
  refine jp_bin (pc2 := 524) (v := x_3 + 1) rfl rfl rfl ?_
  refine jp_iald (pc2 := 525) rfl rfl e3 b4 ?_
  exact jp_virt (pc2 := 528) (As := [(.int (f2 (x_3 + 1).toNatClampNeg))]) (rest := []) rfl rfl rfl (Nat.le_of_ble_eq_true rfl) e6 m7 m8 hc rfl K
set_option maxRecDepth 100000 in
theorem b152_528g {r_0 : Nat} {r_1 : Nat} {r_2 : Nat} {x_3 : Int32} {sx_0 : Int32} {n1 : Nat} {f2 : Nat → Int32} {fs5 : List Value} {P : ipQ} {mc ms : Nat} (e3 : h r_0 = some (.inl (0, n1, .inl f2))) (b4 : vp_in (x_3 + 1) n1) (e6 : h r_2 = some (.inr (9, fs5))) (m7 : c + mc ≤ MC) (m8 : s + ms ≤ MS) (hc : call 150 [(.ref r_2), (.int (f2 (x_3 + 1).toNatClampNeg))] h z mc ms P) (K : ∀ (o : Option Value) (h2 : HP) (z2 : Nat), P o h2 z2 → ip sc call 152 MC MS Q 537 [some (.ref r_0), some (.ref r_1), some (.ref r_2), some (.int x_3)] (o.toList ++ [(.int sx_0)]) h2 z2 (c + mc) (s + ms)) : ip sc call 152 MC MS Q 528 [some (.ref r_0), some (.ref r_1), some (.ref r_2), some (.int x_3)] [(.int sx_0)] h z c s := by
  refine jp_load (pc2 := 529) (n := 2) rfl rfl rfl rfl ?_
  refine jp_load (pc2 := 530) (n := 0) rfl rfl rfl rfl ?_
  refine jp_load (pc2 := 531) (n := 3) rfl rfl rfl rfl ?_
  refine jp_con (pc2 := 532) (v := .int 1) rfl rfl rfl ?_
  refine jp_bin (pc2 := 533) (v := x_3 + 1) rfl rfl rfl ?_
  refine jp_iald (pc2 := 534) rfl rfl e3 b4 ?_
  exact jp_virt (pc2 := 537) (As := [(.int (f2 (x_3 + 1).toNatClampNeg))]) (rest := [(.int sx_0)]) rfl rfl rfl (Nat.le_of_ble_eq_true rfl) e6 m7 m8 hc rfl K
set_option maxRecDepth 100000 in
theorem b152_537 {r_0 : Nat} {r_1 : Nat} {r_2 : Nat} {x_3 : Int32} {sx_0 : Int32} {sx_1 : Int32}  (K1 : sx_0 = sx_1 → ip sc call 152 MC MS Q 542 [some (.ref r_0), some (.ref r_1), some (.ref r_2), some (.int x_3)] [] h z c s) (K2 : ¬ (sx_0 = sx_1) → ip sc call 152 MC MS Q 540 [some (.ref r_0), some (.ref r_1), some (.ref r_2), some (.int x_3)] [] h z c s) : ip sc call 152 MC MS Q 537 [some (.ref r_0), some (.ref r_1), some (.ref r_2), some (.int x_3)] [(.int sx_1), (.int sx_0)] h z c s := by
  exact jp_icmp (pc2 := 540) rfl rfl K1 K2
set_option maxRecDepth 100000 in
theorem b152_540 {o_0 : Option Value} {o_1 : Option Value} {o_2 : Option Value} {o_3 : Option Value} (q1 : Q (some (.int 0)) h z)  : ip sc call 152 MC MS Q 540 [o_0, o_1, o_2, o_3] [] h z c s := by
  refine jp_con (pc2 := 541) (v := .int 0) rfl rfl rfl ?_
  exact ip_iret (st := []) rfl rfl rfl q1
set_option maxRecDepth 100000 in
theorem b152_542 {r_0 : Nat} {r_1 : Nat} {r_2 : Nat} {x_3 : Int32}  (K : ip sc call 152 MC MS Q 18 [some (.ref r_0), some (.ref r_1), some (.ref r_2), some (.int (x_3 + 7))] [] h z c s) : ip sc call 152 MC MS Q 542 [some (.ref r_0), some (.ref r_1), some (.ref r_2), some (.int x_3)] [] h z c s := by
  refine jp_iinc (pc2 := 545) (n := 3) (v := x_3 + 7) rfl rfl rfl rfl rfl ?_
  refine ip_goto rfl ?_
  exact K
set_option maxRecDepth 100000 in
theorem b152_548 {o_0 : Option Value} {o_1 : Option Value} {o_2 : Option Value} {o_3 : Option Value} (q1 : Q (some (.int 1)) h z)  : ip sc call 152 MC MS Q 548 [o_0, o_1, o_2, o_3] [] h z c s := by
  refine jp_con (pc2 := 549) (v := .int 1) rfl rfl rfl ?_
  exact ip_iret (st := []) rfl rfl rfl q1
end BLK
