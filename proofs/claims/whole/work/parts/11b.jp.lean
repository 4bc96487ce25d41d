/-! the rules with their results named: for the printed blocks -/
def ip2 (o : Option Value) : Bool := match o with
  | some (.long _) => true
  | some (.double _) => true
  | _ => false
def ipNb (lv : ipV) (n : Nat) : Option Value := match n with
  | 0 => none
  | j + 1 => match lv[j]? with
    | some o => o
    | none => none
theorem ipKill_id {lv : ipV} {n : Nat} (h : ip2 (ipNb lv n) = false) : ipKill lv n = lv := by
  unfold ipKill
  split
  · rfl
  · rename_i j
    split
    · rename_i w hw
      have h2 : ip2 (some w) = false := by
        have : ipNb lv (j + 1) = some w := by simp only [ipNb, hw]
        rw [this] at h
        exact h
      have : ¬ w.category = 2 := by
        cases w <;> simp [ip2] at h2 <;> simp [Value.category]
      rw [if_neg this]
    · rfl
theorem ipSet_1 {lv : ipV} {n : Nat} {v : Value} (h : ip2 (ipNb lv n) = false) (hv : v.category = 1) : ipSet lv n v = lv.set n (some v) := by
  unfold ipSet
  rw [if_neg (by omega), ipKill_id h]
theorem ipSet_2 {lv : ipV} {n : Nat} {v : Value} (h : ip2 (ipNb lv n) = false) (hv : v.category = 2) : ipSet lv n v = (lv.set n (some v)).set (n + 1) none := by
  unfold ipSet
  rw [if_pos hv, ipKill_id h]
theorem hup_eq {h : HP} {r : Nat} {e : hE} : hup h r e r = some e := if_pos rfl
theorem hup_ne {h : HP} {r x : Nat} {e : hE} {y : Option hE} (hne : x ≠ r) (hx : h x = y) : hup h r e x = y := (if_neg hne).trans hx
theorem gs_eq {l : List Value} {i : Nat} {v : Value} (h : i < l.length) : (l.set i v)[i]? = some v := by simp [h]
theorem gs_ne {l : List Value} {i j : Nat} {v w : Value} (hne : i ≠ j) (h : l[j]? = some w) : (l.set i v)[j]? = some w := by rw [List.getElem?_set_ne hne]; exact h
theorem ln_lt {l : List Value} {n k : Nat} (h : l.length = n) (hk : k < n) : k < l.length := by omega
theorem ls_lt {l : List Value} {i k : Nat} {v : Value} (h : k < l.length) : k < (l.set i v).length := by rw [List.length_set]; exact h
section JP
variable {sc : ipSc} {call : ipCall} {mid MC MS : Nat} {Q : ipQ} {pc pc2 len a b : Nat} {i : Instr} {lv : ipV} {st : List Value} {h : HP} {z c s : Nat}
theorem jp_con {v : Value} (h0 : ipAt mid pc = some (i, len, a, b)) (hp : pc + len = pc2) (h1 : ipCon i a = some v) (K : ip sc call mid MC MS Q pc2 lv (v :: st) h z c s) : ip sc call mid MC MS Q pc lv st h z c s := by subst hp; exact ip_con h0 h1 K
theorem jp_load {n : Nat} {v : Value} (h0 : ipAt mid pc = some (i, len, a, b)) (hp : pc + len = pc2) (h2 : lv[n]? = some (some v)) (h1 : ipLd i v = some n) (K : ip sc call mid MC MS Q pc2 lv (v :: st) h z c s) : ip sc call mid MC MS Q pc lv st h z c s := by subst hp; exact ip_load h0 h1 h2 K
theorem ipSto_cat {v : Value} {n : Nat} (h : ipSto i v = some n) : v.category = 1 ∨ v.category = 2 := lv_cat v
theorem jp_store {n : Nat} {v : Value} (h0 : ipAt mid pc = some (i, len, a, b)) (hp : pc + len = pc2) (h1 : ipSto i v = some n ∧ v.category = 1) (h2 : ip2 (ipNb lv n) = false) (h3 : n + 1 ≤ lv.length) (K : ip sc call mid MC MS Q pc2 (lv.set n (some v)) st h z c s) : ip sc call mid MC MS Q pc lv (v :: st) h z c s := by
  subst hp
  refine ip_store h0 h1.1 (by rw [h1.2]; exact h3) ?_
  rw [ipSet_1 h2 h1.2]
  exact K
theorem jp_store2 {n : Nat} {v : Value} (h0 : ipAt mid pc = some (i, len, a, b)) (hp : pc + len = pc2) (h1 : ipSto i v = some n ∧ v.category = 2) (h2 : ip2 (ipNb lv n) = false) (h3 : n + 2 ≤ lv.length) (K : ip sc call mid MC MS Q pc2 ((lv.set n (some v)).set (n + 1) none) st h z c s) : ip sc call mid MC MS Q pc lv (v :: st) h z c s := by
  subst hp
  refine ip_store h0 h1.1 (by rw [h1.2]; exact h3) ?_
  rw [ipSet_2 h2 h1.2]
  exact K
theorem jp_iinc {n : Nat} {d : Int} {x v : Int32} (h0 : ipAt mid pc = some (.iinc n d, len, a, b)) (hp : pc + len = pc2) (h1 : lv[n]? = some (some (.int x))) (h2 : x + Int32.ofInt d = v) (h3 : ip2 (ipNb lv n) = false) (K : ip sc call mid MC MS Q pc2 (lv.set n (some (.int v))) st h z c s) : ip sc call mid MC MS Q pc lv st h z c s := by
  subst hp
  refine ip_iinc h0 h1 ?_
  rw [ipSet_1 h3 rfl, h2]
  exact K
theorem jp_bin {x y v : Int32} (h0 : ipAt mid pc = some (i, len, a, b)) (hp : pc + len = pc2) (h1 : ipBin i x y = some v) (K : ip sc call mid MC MS Q pc2 lv (.int v :: st) h z c s) : ip sc call mid MC MS Q pc lv (.int y :: .int x :: st) h z c s := by subst hp; exact ip_bin h0 h1 K
theorem jp_lbin {x y v : Int64} (h0 : ipAt mid pc = some (i, len, a, b)) (hp : pc + len = pc2) (h1 : ipLbin i x y = some v) (K : ip sc call mid MC MS Q pc2 lv (.long v :: st) h z c s) : ip sc call mid MC MS Q pc lv (.long y :: .long x :: st) h z c s := by subst hp; exact ip_lbin h0 h1 K
theorem jp_lsh {x v : Int64} {y : Int32} (h0 : ipAt mid pc = some (i, len, a, b)) (hp : pc + len = pc2) (h1 : ipLsh i x y = some v) (K : ip sc call mid MC MS Q pc2 lv (.long v :: st) h z c s) : ip sc call mid MC MS Q pc lv (.int y :: .long x :: st) h z c s := by subst hp; exact ip_lsh h0 h1 K
theorem jp_cv {x v : Value} (h0 : ipAt mid pc = some (i, len, a, b)) (hp : pc + len = pc2) (h1 : ipCv i x = some v) (K : ip sc call mid MC MS Q pc2 lv (v :: st) h z c s) : ip sc call mid MC MS Q pc lv (x :: st) h z c s := by subst hp; exact ip_cv h0 h1 K
theorem jp_lcmp {x y : Int64} (h0 : ipAt mid pc = some (.lcmp, len, a, b)) (hp : pc + len = pc2) (K : ip sc call mid MC MS Q pc2 lv (.int (lg_cmp x y) :: st) h z c s) : ip sc call mid MC MS Q pc lv (.long y :: .long x :: st) h z c s := by subst hp; exact ip_lcmp h0 K
theorem jp_dup {v : Value} (h0 : ipAt mid pc = some (.dup, len, a, b)) (hp : pc + len = pc2) (h1 : v.category = 1) (K : ip sc call mid MC MS Q pc2 lv (v :: v :: st) h z c s) : ip sc call mid MC MS Q pc lv (v :: st) h z c s := by subst hp; exact ip_dup h0 h1 K
theorem jp_dup2 {v w : Value} (h0 : ipAt mid pc = some (.dup2, len, a, b)) (hp : pc + len = pc2) (h1 : v.category = 1) (h2 : w.category = 1) (K : ip sc call mid MC MS Q pc2 lv (v :: w :: v :: w :: st) h z c s) : ip sc call mid MC MS Q pc lv (v :: w :: st) h z c s := by subst hp; exact ip_dup2 h0 h1 h2 K
theorem jp_pop {v : Value} (h0 : ipAt mid pc = some (.pop, len, a, b)) (hp : pc + len = pc2) (h1 : v.category = 1) (K : ip sc call mid MC MS Q pc2 lv st h z c s) : ip sc call mid MC MS Q pc lv (v :: st) h z c s := by subst hp; exact ip_pop h0 h1 K
theorem jp_icmp {cd : ClassFile.Cond} {off : Int} {x y : Int32} (h0 : ipAt mid pc = some (.if_icmp cd off, len, a, b)) (hp : pc + len = pc2) (K1 : ipCmp cd x y → ip sc call mid MC MS Q a lv st h z c s) (K2 : ¬ ipCmp cd x y → ip sc call mid MC MS Q pc2 lv st h z c s) : ip sc call mid MC MS Q pc lv (.int y :: .int x :: st) h z c s := by subst hp; exact ip_icmp h0 K1 K2
theorem jp_if0 {cd : ClassFile.Cond} {off : Int} {x : Int32} (h0 : ipAt mid pc = some (.ifCond cd off, len, a, b)) (hp : pc + len = pc2) (K1 : ipCmp cd x 0 → ip sc call mid MC MS Q a lv st h z c s) (K2 : ¬ ipCmp cd x 0 → ip sc call mid MC MS Q pc2 lv st h z c s) : ip sc call mid MC MS Q pc lv (.int x :: st) h z c s := by subst hp; exact ip_if0 h0 K1 K2
theorem jp_isnull {off : Int} (h0 : ipAt mid pc = some (.ifnonnull off, len, a, b)) (hp : pc + len = pc2) (K : ip sc call mid MC MS Q pc2 lv st h z c s) : ip sc call mid MC MS Q pc lv (.null :: st) h z c s := by subst hp; exact ip_isnull h0 K
theorem jp_getf {x ci k r : Nat} {fs : List Value} {v : Value} (h0 : ipAt mid pc = some (.getfield x, len, ci, k)) (hp : pc + len = pc2) (h1 : h r = some (.inr (ci, fs))) (h2 : fs[k]? = some v) (K : ip sc call mid MC MS Q pc2 lv (v :: st) h z c s) : ip sc call mid MC MS Q pc lv (.ref r :: st) h z c s := by subst hp; exact ip_getf h0 h1 h2 K
theorem jp_putf {x ci k r : Nat} {fs : List Value} {v : Value} (h0 : ipAt mid pc = some (.putfield x, len, ci, k)) (hp : pc + len = pc2) (h1 : h r = some (.inr (ci, fs))) (h2 : k < fs.length) (h3 : ipFit ci k v) (K : ip sc call mid MC MS Q pc2 lv st (hup h r (.inr (ci, fs.set k v))) z c s) : ip sc call mid MC MS Q pc lv (v :: .ref r :: st) h z c s := by subst hp; exact ip_putf h0 h1 h2 h3 K
theorem jp_iald {r n : Nat} {f : Nat → Int32} {i : Int32} (h0 : ipAt mid pc = some (.iaload, len, a, b)) (hp : pc + len = pc2) (h1 : h r = some (.inl (0, n, .inl f))) (h2 : vp_in i n) (K : ip sc call mid MC MS Q pc2 lv (.int (f i.toNatClampNeg) :: st) h z c s) : ip sc call mid MC MS Q pc lv (.int i :: .ref r :: st) h z c s := by subst hp; exact ip_iald h0 h1 h2 K
theorem jp_bald {r n t : Nat} {f : Nat → Int32} {i : Int32} (h0 : ipAt mid pc = some (.baload, len, a, b)) (hp : pc + len = pc2) (h1 : h r = some (.inl (t, n, .inl f))) (ht : t = 2 ∨ t = 3) (h2 : vp_in i n) (K : ip sc call mid MC MS Q pc2 lv (.int (f i.toNatClampNeg) :: st) h z c s) : ip sc call mid MC MS Q pc lv (.int i :: .ref r :: st) h z c s := by subst hp; exact ip_bald h0 h1 ht h2 K
theorem jp_lald {r n : Nat} {f : Nat → Int64} {i : Int32} (h0 : ipAt mid pc = some (.laload, len, a, b)) (hp : pc + len = pc2) (h1 : h r = some (.inl (1, n, .inr (.inl f)))) (h2 : vp_in i n) (K : ip sc call mid MC MS Q pc2 lv (.long (f i.toNatClampNeg) :: st) h z c s) : ip sc call mid MC MS Q pc lv (.int i :: .ref r :: st) h z c s := by subst hp; exact ip_lald h0 h1 h2 K
theorem jp_aald {r n t q : Nat} {f : Nat → Option Nat} {i : Int32} (h0 : ipAt mid pc = some (.aaload, len, a, b)) (hp : pc + len = pc2) (h1 : h r = some (.inl (t, n, .inr (.inr (.inr (.inr f)))))) (ht : t = 4 ∨ t = 5 ∨ t = 6) (h2 : vp_in i n) (h3 : f i.toNatClampNeg = some q) (K : ip sc call mid MC MS Q pc2 lv (.ref q :: st) h z c s) : ip sc call mid MC MS Q pc lv (.int i :: .ref r :: st) h z c s := by
  subst hp
  refine ip_aald h0 h1 ht h2 ?_
  rw [h3]
  exact K
theorem jp_aaldn {r n t : Nat} {f : Nat → Option Nat} {i : Int32} (h0 : ipAt mid pc = some (.aaload, len, a, b)) (hp : pc + len = pc2) (h1 : h r = some (.inl (t, n, .inr (.inr (.inr (.inr f)))))) (ht : t = 4 ∨ t = 5 ∨ t = 6) (h2 : vp_in i n) (h3 : f i.toNatClampNeg = none) (K : ip sc call mid MC MS Q pc2 lv (.null :: st) h z c s) : ip sc call mid MC MS Q pc lv (.int i :: .ref r :: st) h z c s := by
  subst hp
  refine ip_aald h0 h1 ht h2 ?_
  rw [h3]
  exact K
theorem jp_alen {r t : Nat} {x : vp_A} (h0 : ipAt mid pc = some (.arraylength, len, a, b)) (hp : pc + len = pc2) (h1 : h r = some (.inl (t, x))) (ht : t < 7) (K : ip sc call mid MC MS Q pc2 lv (.int (Int32.ofNat x.1) :: st) h z c s) : ip sc call mid MC MS Q pc lv (.ref r :: st) h z c s := by subst hp; exact ip_alen h0 h1 ht K
theorem jp_iast {r n : Nat} {f : Nat → Int32} {i x : Int32} (h0 : ipAt mid pc = some (.iastore, len, a, b)) (hp : pc + len = pc2) (h1 : h r = some (.inl (0, n, .inl f))) (h2 : vp_in i n) (K : ip sc call mid MC MS Q pc2 lv st (hup h r (.inl (0, n, .inl (upd f i.toNatClampNeg x)))) z c s) : ip sc call mid MC MS Q pc lv (.int x :: .int i :: .ref r :: st) h z c s := by subst hp; exact ip_iast h0 h1 h2 K
theorem jp_bast {r n : Nat} {f : Nat → Int32} {i x : Int32} (h0 : ipAt mid pc = some (.bastore, len, a, b)) (hp : pc + len = pc2) (h1 : h r = some (.inl (2, n, .inl f))) (h2 : vp_in i n) (K : ip sc call mid MC MS Q pc2 lv st (hup h r (.inl (2, n, .inl (upd f i.toNatClampNeg (vp_nar .byte x))))) z c s) : ip sc call mid MC MS Q pc lv (.int x :: .int i :: .ref r :: st) h z c s := by subst hp; exact ip_bast h0 h1 h2 K
theorem jp_zast {r n : Nat} {f : Nat → Int32} {i x : Int32} (h0 : ipAt mid pc = some (.bastore, len, a, b)) (hp : pc + len = pc2) (h1 : h r = some (.inl (3, n, .inl f))) (h2 : vp_in i n) (K : ip sc call mid MC MS Q pc2 lv st (hup h r (.inl (3, n, .inl (upd f i.toNatClampNeg (vp_nar .boolean x))))) z c s) : ip sc call mid MC MS Q pc lv (.int x :: .int i :: .ref r :: st) h z c s := by subst hp; exact ip_zast h0 h1 h2 K
theorem jp_last {r n : Nat} {f : Nat → Int64} {i : Int32} {x : Int64} (h0 : ipAt mid pc = some (.lastore, len, a, b)) (hp : pc + len = pc2) (h1 : h r = some (.inl (1, n, .inr (.inl f)))) (h2 : vp_in i n) (K : ip sc call mid MC MS Q pc2 lv st (hup h r (.inl (1, n, .inr (.inl (vp_updL f i.toNatClampNeg x))))) z c s) : ip sc call mid MC MS Q pc lv (.long x :: .int i :: .ref r :: st) h z c s := by subst hp; exact ip_last h0 h1 h2 K
theorem jp_aast {r n t v ci : Nat} {vs : List Value} {f : Nat → Option Nat} {i : Int32} (h0 : ipAt mid pc = some (.aastore, len, a, b)) (hp : pc + len = pc2) (h1 : h r = some (.inl (t, n, .inr (.inr (.inr (.inr f)))))) (ht : (t = 4 ∨ t = 5 ∨ t = 6) ∧ ipElt t = ci) (hv : h v = some (.inr (ci, vs))) (h2 : vp_in i n) (K : ip sc call mid MC MS Q pc2 lv st (hup h r (.inl (t, n, .inr (.inr (.inr (.inr (va_up f i.toNatClampNeg (some v)))))))) z c s) : ip sc call mid MC MS Q pc lv (.ref v :: .int i :: .ref r :: st) h z c s := by
  subst hp
  obtain ⟨ht1, ht2⟩ := ht
  subst ht2
  exact ip_aast h0 h1 ht1 hv h2 K
theorem jp_new {x ci N : Nat} (h0 : ipAt mid pc = some (.new x, len, ci, b)) (hp : pc + len = pc2) (hN : ipN ci = N) (m1 : c + 1 ≤ MC) (m2 : s + N ≤ MS) (K : ip sc call mid MC MS Q pc2 lv (.ref z :: st) (hup h z (.inr (ci, ipDef ci))) (z + 1) (c + 1) (s + N)) : ip sc call mid MC MS Q pc lv st h z c s := by subst hp; subst hN; exact ip_new h0 m1 m2 K
theorem jp_newa0 {at0 : ArrayType} {N : Nat} {n : Int32} (h0 : ipAt mid pc = some (.newarray at0, len, 0, b)) (hp : pc + len = pc2) (hn : ¬ n < 0) (hN : n.toNatClampNeg = N) (hb : N * 8 ≤ 536870912) (m1 : c + 1 ≤ MC) (m2 : s + N ≤ MS) (K : ip sc call mid MC MS Q pc2 lv (.ref z :: st) (hup h z (.inl (0, N, .inl (fun _ => 0)))) (z + 1) (c + 1) (s + N)) : ip sc call mid MC MS Q pc lv (.int n :: st) h z c s := by subst hp; exact ip_newa h0 hn hN hb m1 m2 K
theorem jp_newa1 {at0 : ArrayType} {N : Nat} {n : Int32} (h0 : ipAt mid pc = some (.newarray at0, len, 1, b)) (hp : pc + len = pc2) (hn : ¬ n < 0) (hN : n.toNatClampNeg = N) (hb : N * 8 ≤ 536870912) (m1 : c + 1 ≤ MC) (m2 : s + N ≤ MS) (K : ip sc call mid MC MS Q pc2 lv (.ref z :: st) (hup h z (.inl (1, N, .inr (.inl (fun _ => 0))))) (z + 1) (c + 1) (s + N)) : ip sc call mid MC MS Q pc lv (.int n :: st) h z c s := by subst hp; exact ip_newa h0 hn hN hb m1 m2 K
theorem jp_newa2 {at0 : ArrayType} {N : Nat} {n : Int32} (h0 : ipAt mid pc = some (.newarray at0, len, 2, b)) (hp : pc + len = pc2) (hn : ¬ n < 0) (hN : n.toNatClampNeg = N) (hb : N * 8 ≤ 536870912) (m1 : c + 1 ≤ MC) (m2 : s + N ≤ MS) (K : ip sc call mid MC MS Q pc2 lv (.ref z :: st) (hup h z (.inl (2, N, .inl (fun _ => 0)))) (z + 1) (c + 1) (s + N)) : ip sc call mid MC MS Q pc lv (.int n :: st) h z c s := by subst hp; exact ip_newa h0 hn hN hb m1 m2 K
theorem jp_newa3 {at0 : ArrayType} {N : Nat} {n : Int32} (h0 : ipAt mid pc = some (.newarray at0, len, 3, b)) (hp : pc + len = pc2) (hn : ¬ n < 0) (hN : n.toNatClampNeg = N) (hb : N * 8 ≤ 536870912) (m1 : c + 1 ≤ MC) (m2 : s + N ≤ MS) (K : ip sc call mid MC MS Q pc2 lv (.ref z :: st) (hup h z (.inl (3, N, .inl (fun _ => 0)))) (z + 1) (c + 1) (s + N)) : ip sc call mid MC MS Q pc lv (.int n :: st) h z c s := by subst hp; exact ip_newa h0 hn hN hb m1 m2 K
theorem jp_newq {x t N : Nat} {n : Int32} (h0 : ipAt mid pc = some (.anewarray x, len, t, b)) (hp : pc + len = pc2) (hn : ¬ n < 0) (hN : n.toNatClampNeg = N) (hb : N * 8 ≤ 536870912) (m1 : c + 1 ≤ MC) (m2 : s + N ≤ MS) (K : ip sc call mid MC MS Q pc2 lv (.ref z :: st) (hup h z (.inl (t, N, .inr (.inr (.inr (.inr (fun _ => none))))))) (z + 1) (c + 1) (s + N)) : ip sc call mid MC MS Q pc lv (.int n :: st) h z c s := by subst hp; exact ip_newq h0 hn hN hb m1 m2 K
theorem jp_objinit {x r : Nat} (h0 : ipAt mid pc = some (.invokespecial x, len, 999, b)) (hp : pc + len = pc2) (h1 : (st.map fun v => v.category).sum ≤ 8) (K : ip sc call mid MC MS Q pc2 lv st h z c s) : ip sc call mid MC MS Q pc lv (.ref r :: st) h z c s := by subst hp; exact ip_objinit h0 h1 K
theorem jp_virt {x md n r mc ms : Nat} {fs As rest : List Value} {P : ipQ} (h0 : ipAt mid pc = some (.invokevirtual x, len, md, n)) (hp : pc + len = pc2) (hA : As.length = n) (hs : (rest.map fun v => v.category).sum ≤ 8) (hr : h r = some (.inr (ipO md, fs))) (m1 : c + mc ≤ MC) (m2 : s + ms ≤ MS) (hc : call md (.ref r :: As) h z mc ms P) (hst : st = As.reverse ++ .ref r :: rest) (K : ∀ (o : Option Value) (h2 : HP) (z2 : Nat), P o h2 z2 → ip sc call mid MC MS Q pc2 lv (o.toList ++ rest) h2 z2 (c + mc) (s + ms)) : ip sc call mid MC MS Q pc lv st h z c s := by subst hp; exact ip_virt h0 hA hs hr m1 m2 hc hst K
theorem jp_spec {x md n r mc ms : Nat} {As rest : List Value} {P : ipQ} (h0 : ipAt mid pc = some (.invokespecial x, len, md, n)) (hp : pc + len = pc2) (hA : As.length = n) (hs : (rest.map fun v => v.category).sum ≤ 8) (m1 : c + mc ≤ MC) (m2 : s + ms ≤ MS) (hlt : md < 999) (hc : call md (.ref r :: As) h z mc ms P) (hst : st = As.reverse ++ .ref r :: rest) (K : ∀ (o : Option Value) (h2 : HP) (z2 : Nat), P o h2 z2 → ip sc call mid MC MS Q pc2 lv (o.toList ++ rest) h2 z2 (c + mc) (s + ms)) : ip sc call mid MC MS Q pc lv st h z c s := by subst hp; exact ip_spec h0 hA hs m1 m2 hlt hc hst K
theorem jp_stat {x md n mc ms : Nat} {As rest : List Value} {P : ipQ} (h0 : ipAt mid pc = some (.invokestatic x, len, md, n)) (hp : pc + len = pc2) (hA : As.length = n) (hs : (rest.map fun v => v.category).sum ≤ 8) (m1 : c + mc ≤ MC) (m2 : s + ms ≤ MS) (hlt : md < 998) (hc : call md As h z mc ms P) (hst : st = As.reverse ++ rest) (K : ∀ (o : Option Value) (h2 : HP) (z2 : Nat), P o h2 z2 → ip sc call mid MC MS Q pc2 lv (o.toList ++ rest) h2 z2 (c + mc) (s + ms)) : ip sc call mid MC MS Q pc lv st h z c s := by subst hp; exact ip_stat h0 hA hs m1 m2 hlt hc hst K
theorem jp_virt0 {x md n r : Nat} {fs As rest : List Value} {P : ipQ} (h0 : ipAt mid pc = some (.invokevirtual x, len, md, n)) (hp : pc + len = pc2) (hA : As.length = n) (hs : (rest.map fun v => v.category).sum ≤ 8) (hr : h r = some (.inr (ipO md, fs))) (m1 : c ≤ MC) (m2 : s ≤ MS) (hc : call md (.ref r :: As) h z 0 0 P) (hst : st = As.reverse ++ .ref r :: rest) (K : ∀ (o : Option Value) (h2 : HP) (z2 : Nat), P o h2 z2 → ip sc call mid MC MS Q pc2 lv (o.toList ++ rest) h2 z2 c s) : ip sc call mid MC MS Q pc lv st h z c s := by subst hp; exact ip_virt h0 hA hs hr m1 m2 hc hst K
theorem jp_spec0 {x md n r : Nat} {As rest : List Value} {P : ipQ} (h0 : ipAt mid pc = some (.invokespecial x, len, md, n)) (hp : pc + len = pc2) (hA : As.length = n) (hs : (rest.map fun v => v.category).sum ≤ 8) (m1 : c ≤ MC) (m2 : s ≤ MS) (hlt : md < 999) (hc : call md (.ref r :: As) h z 0 0 P) (hst : st = As.reverse ++ .ref r :: rest) (K : ∀ (o : Option Value) (h2 : HP) (z2 : Nat), P o h2 z2 → ip sc call mid MC MS Q pc2 lv (o.toList ++ rest) h2 z2 c s) : ip sc call mid MC MS Q pc lv st h z c s := by subst hp; exact ip_spec h0 hA hs m1 m2 hlt hc hst K
theorem jp_stat0 {x md n : Nat} {As rest : List Value} {P : ipQ} (h0 : ipAt mid pc = some (.invokestatic x, len, md, n)) (hp : pc + len = pc2) (hA : As.length = n) (hs : (rest.map fun v => v.category).sum ≤ 8) (m1 : c ≤ MC) (m2 : s ≤ MS) (hlt : md < 998) (hc : call md As h z 0 0 P) (hst : st = As.reverse ++ rest) (K : ∀ (o : Option Value) (h2 : HP) (z2 : Nat), P o h2 z2 → ip sc call mid MC MS Q pc2 lv (o.toList ++ rest) h2 z2 c s) : ip sc call mid MC MS Q pc lv st h z c s := by subst hp; exact ip_stat h0 hA hs m1 m2 hlt hc hst K
end JP
