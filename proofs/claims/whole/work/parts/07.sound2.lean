/-! each rule, over the machine -/
def ipE (aC : Nat → Nat) (x : hE) : va_E := match x with
  | .inl q => .inl (aC q.1, q.2)
  | .inr o => .inr o
def ipW (D : va_G) (aC : Nat → Nat) (B0 bb : Nat) (cb : Cell) (h : HP) (z : Nat) (H : Heap) : Prop := H.size = z ∧ H[bb]? = some cb ∧ B0 ≤ z ∧ ∀ (a : Nat) (x : hE), h a = some x → B0 ≤ a ∧ va_at D vwCl (a, ipE aC x) H
def ipTys (aC : Nat → Nat) : List (ClassId × FieldType) := [(aC 0, .int), (aC 1, .long), (aC 2, .byte), (aC 3, .boolean), (aC 4, .object "SproutTable$Move"), (aC 5, .object "SproutTable$Position"), (aC 6, .object "SproutTable$Notes")]
def ipK (D : va_G) (aC : Nat → Nat) (cb : Cell) (sc : ipSc) (U : State) : Prop := va_K D vwCl (ipTys aC) U ∧ (U.isArrayOf cb .int ∧ cb.vm ≠ .unknown ∧ cb.slots.size = sc.2.1 ∧ ∀ j : Nat, j < sc.2.1 → cb.slots[j]? = some (.int (sc.2.2 j))) ∧ (∀ q ∈ ipNL, va_Nw (.methodLinkNest (ipCN q.1) q.2.1 (ipY q.2.2.1) RX8) U) ∧ ∀ t : Nat, 4 ≤ t → t < 7 → va_AO (ipAC t) U
theorem ipK.warm {D : va_G} {aC : Nat → Nat} {cb : Cell} {sc : ipSc} {s U : State} (hW : s.WarmedH U.vm) (h : ipK D aC cb sc s) : ipK D aC cb sc U :=
  ⟨va_K.moved hW.alike h.1, ⟨State.isArrayOf_alike hW.alike h.2.1.1, h.2.1.2⟩, fun q hq => va_Nw.warmM hW (h.2.2.1 q hq), fun t h1 h2 => va_AO.moved hW.alike (h.2.2.2 t h1 h2)⟩
theorem ipK.same {D : va_G} {aC : Nat → Nat} {cb : Cell} {sc : ipSc} {s U : State} (hv : s.vm = U.vm) (h : ipK D aC cb sc s) : ipK D aC cb sc U := by
  have ha : s.vm.Alike U.vm := by rw [hv]; exact Vm.Alike.refl _
  exact ⟨va_K.moved ha h.1, ⟨State.isArrayOf_alike ha h.2.1.1, h.2.1.2⟩, fun q hq => va_Nw.same rfl hv (h.2.2.1 q hq), fun t h1 h2 => va_AO.moved ha (h.2.2.2 t h1 h2)⟩
theorem va_P1 {D : va_G} {cl : List vw_C} {q : Nat × va_E} {H : Heap} (h : va_at D cl q H) : va_P D cl [q] H := fun k r hr => by
  have hk : k < 1 := (List.getElem?_eq_some_iff.mp hr).1
  rw [show k = 0 by omega] at hr
  cases hr
  exact h
theorem ipW.put {D : va_G} {aC : Nat → Nat} {B0 bb : Nat} {cb : Cell} {h : HP} {z r : Nat} {x0 x1 : hE} {H H1 : Heap} (hbb : bb < B0) (hw : ipW D aC B0 bb cb h z H) (hr : h r = some x0) (hz : H1.size = H.size) (ho : ∀ q, q ≠ r → H1[q]? = H[q]?) (ha : va_at D vwCl (r, ipE aC x1) H1) : ipW D aC B0 bb cb (hup h r x1) z H1 := by
  obtain ⟨h1, h2, h3, h4⟩ := hw
  have hB := (h4 r x0 hr).1
  refine ⟨hz.trans h1, by rw [ho bb (by omega)]; exact h2, h3, fun a x hx => ?_⟩
  unfold hup at hx
  by_cases e : a = r
  · rw [if_pos e] at hx
    cases hx
    subst e
    exact ⟨hB, ha⟩
  · rw [if_neg e] at hx
    exact ⟨(h4 a x hx).1, (h4 a x hx).2.kept (ho a e)⟩
theorem ipW.push {D : va_G} {aC : Nat → Nat} {B0 bb : Nat} {cb : Cell} {h : HP} {z : Nat} {x1 : hE} {H H1 : Heap} (hbb : bb < B0) (hw : ipW D aC B0 bb cb h z H) (hz : H1.size = z + 1) (ho : ∀ q, q < z → H1[q]? = H[q]?) (ha : va_at D vwCl (z, ipE aC x1) H1) : ipW D aC B0 bb cb (hup h z x1) (z + 1) H1 := by
  obtain ⟨h1, h2, h3, h4⟩ := hw
  refine ⟨hz, by rw [ho bb (by omega)]; exact h2, by omega, fun a x hx => ?_⟩
  unfold hup at hx
  by_cases e : a = z
  · rw [if_pos e] at hx
    cases hx
    subst e
    exact ⟨h3, ha⟩
  · rw [if_neg e] at hx
    have hl := (h4 a x hx).2.lt
    exact ⟨(h4 a x hx).1, (h4 a x hx).2.kept (ho a (by rw [← h1]; exact hl))⟩
theorem ipFL_in {q : Nat × Nat × Nat × Nat} (h : ipFL.contains q = true) : q ∈ ipFL := List.contains_iff_mem.mp h
theorem ipFL_lt {o x a b : Nat} (h : (o, x, a, b) ∈ ipFL) : a < 10 ∧ b < ipN a := by
  have h1 := List.all_eq_true.mp ipFL_r _ h
  simp only [Bool.and_eq_true, decide_eq_true_eq] at h1
  exact h1
def ipTf (ci : Nat) : u_T := (ipTs.getD ci (TX0, tyX0, 2)).1
def ipTyf (ci : Nat) : Nat → FieldType := (ipTs.getD ci (TX0, tyX0, 2)).2.1
theorem ipCls {ci : Nat} (h : ci < 10) : vwCl[ci]? = some (ipCN ci, ipTf ci, ipN ci) := by
  match ci, h with
  | 0, _ => rfl
  | 1, _ => rfl
  | 2, _ => rfl
  | 3, _ => rfl
  | 4, _ => rfl
  | 5, _ => rfl
  | 6, _ => rfl
  | 7, _ => rfl
  | 8, _ => rfl
  | 9, _ => rfl
  | n + 10, h => exact absurd h (by omega)
set_option maxRecDepth 100000 in
theorem ipLay0 : (List.range 10).all (fun ci => (u_ws (ipCN ci) (ipTf ci) (ipN ci)).all (fun w => decide (w ∈ lw_tbl) && goodWord w)) = true := by decide +kernel
theorem ipLay {ci : Nat} (h : ci < 10) : ∀ w ∈ u_ws (ipCN ci) (ipTf ci) (ipN ci), w ∈ ipTW := by
  intro w hw
  have h1 := List.all_eq_true.mp (List.all_eq_true.mp ipLay0 ci (List.mem_range.mpr h)) w hw
  simp only [Bool.and_eq_true, decide_eq_true_eq] at h1
  exact ipTW_in h1.1 h1.2
set_option maxRecDepth 100000 in
theorem ipTyD0 : (List.range 10).all (fun ci => (List.range (ipN ci)).all (fun k => decide (parseFieldDescriptor (ipT ci k).2.2.1 = some (ipTy ci k)))) = true := by decide +kernel
theorem ipTyD {ci : Nat} (h : ci < 10) : ∀ k, k < ipN ci → parseFieldDescriptor (ipTf ci k).2.2.1 = some (ipTyf ci k) := by
  intro k hk
  have h1 := List.all_eq_true.mp (List.all_eq_true.mp ipTyD0 ci (List.mem_range.mpr h)) k (List.mem_range.mpr hk)
  exact of_decide_eq_true h1
set_option maxRecDepth 100000 in
theorem ipNm0 : (List.range 10).all (fun ci => (List.range (ipN ci)).all (fun a => (List.range (ipN ci)).all (fun b => decide (a = b) || decide ((ipT ci a).2.1 ≠ (ipT ci b).2.1)))) = true := by decide +kernel
theorem ipNm {ci : Nat} (h : ci < 10) : ∀ a, a < ipN ci → ∀ b, b < ipN ci → a ≠ b → (ipTf ci a).2.1 ≠ (ipTf ci b).2.1 := by
  intro a ha b hb hab
  have h1 := List.all_eq_true.mp (List.all_eq_true.mp (List.all_eq_true.mp ipNm0 ci (List.mem_range.mpr h)) a (List.mem_range.mpr ha)) b (List.mem_range.mpr hb)
  simp only [Bool.or_eq_true, decide_eq_true_eq] at h1
  rcases h1 with h1 | h1
  · exact absurd h1 hab
  · exact h1
def ipX (p : Program) (s : State) (m : MethodId) (args : Array Value) (meth : Method) (c : Code) (D : va_G) (aC : Nat → Nat) (B0 bb : Nat) (cb : Cell) (sc : ipSc) (mid : Nat) : Prop :=
  p.tables.exec = Jvm.exec ∧ c.code = ipB mid ∧ c.maxLocals = ipM mid ∧ s.vm.findClass (ipCN (ipO mid)) = some m.cls ∧ (∀ w ∈ ipTW, w.before args s = true) ∧ ipK D aC cb sc s ∧ ((ipY mid).name = "<init>" → meth.name = "<init>") ∧ bb < B0 ∧ sc.1 = bb
def ipJ (p : Program) (l : Launch) (e : Env) (R : Room) (s : State) (m : MethodId) (args : Array Value) (below : List Frame) (meth : Method) (c : Code) (Z : State → Prop) (D : va_G) (aC : Nat → Nat) (B0 bb : Nat) (cb : Cell) (nL MC MS : Nat) : ipI := fun pc lv st h z k n => ∀ (H : Heap) (locs : List Loc) (ls : Array Slot), k ≤ MC → n ≤ MS → ipW D aC B0 bb cb h z H → ipL ls nL lv → (∀ q ∈ locs, B0 ≤ q.base) → W p l e R s m args below meth c H locs k n Z (F0 m pc ls st)
section IPS
variable {p : Program} {l : Launch} {e : Env} {R : Room} {s : State} {m : MethodId} {args : Array Value} {below : List Frame} {meth : Method} {c : Code} {Z : State → Prop} {D : va_G} {aC : Nat → Nat} {B0 bb : Nat} {cb : Cell} {sc : ipSc} {call : ipCall} {mid MC MS : Nat} {Q : ipQ}
theorem sd_weak : ru_weak sc call mid MC MS Q (ipJ p l e R s m args below meth c Z D aC B0 bb cb (ipM mid) MC MS) := by
  intro pc lv st h z k n lv2 e1 e2 hk H locs ls h1 h2 hw hl hL
  exact hk H locs ls h1 h2 hw ⟨hl.1, hl.2.1, e1.trans hl.2.2.1, fun j v hj => hl.2.2.2 j v (e2 j v hj)⟩ hL
theorem sd_con (C : ipX p s m args meth c D aC B0 bb cb sc mid) : ru_con sc call mid MC MS Q (ipJ p l e R s m args below meth c Z D aC B0 bb cb (ipM mid) MC MS) := by
  intro pc lv st h z k n i len a b v hat hc hk H locs ls h1 h2 hw hl hL
  obtain ⟨hd, hlk, hlen⟩ := ipAt_all hat
  obtain ⟨hx, hb, hml, hown, hts, hK, -⟩ := C
  unfold ipCon at hc
  split at hc
  · cases hc
    have e : len = 1 := hlen (Nat.succ_ne_zero _)
    subst e
    exact lv_iconst hx hb hd rfl (hk H locs ls h1 h2 hw hl hL)
  · cases hc
    have e : len = 2 := hlen (Nat.succ_ne_zero _)
    subst e
    exact lv_bipush hx hb hd rfl (hk H locs ls h1 h2 hw hl hL)
  · cases hc
    have e : len = 3 := hlen (Nat.succ_ne_zero _)
    subst e
    exact lv_sipush hx hb hd rfl (hk H locs ls h1 h2 hw hl hL)
  · cases hc
    have e : len = 1 := hlen (Nat.succ_ne_zero _)
    subst e
    exact lv_lconst hx hb hd rfl (hk H locs ls h1 h2 hw hl hL)
  · cases hc
    have e : len = 2 := hlen (Nat.succ_ne_zero _)
    subst e
    have hq := ipKL_w _ (List.contains_iff_mem.mp hlk)
    exact W.ldc hx hb hown (hts _ (ipTW_in hq rfl)) rfl hd (hk H locs ls h1 h2 hw hl hL)
  · cases hc
    have e : len = 3 := hlen (Nat.succ_ne_zero _)
    subst e
    have hq := ipKL_w _ (List.contains_iff_mem.mp hlk)
    exact lv_ldcw hx hb hown (hts _ (ipTW_in hq rfl)) hd (hk H locs ls h1 h2 hw hl hL)
  · cases hc
    have e : len = 3 := hlen (Nat.succ_ne_zero _)
    subst e
    have hq := ipKLL_w _ (List.contains_iff_mem.mp hlk)
    exact W.ldc2 hx hb hown (hts _ (ipTW_in hq rfl)) rfl hd (hk H locs ls h1 h2 hw hl hL)
  · cases hc
theorem sd_load (C : ipX p s m args meth c D aC B0 bb cb sc mid) : ru_load sc call mid MC MS Q (ipJ p l e R s m args below meth c Z D aC B0 bb cb (ipM mid) MC MS) := by
  intro pc lv st h z k n i len a b j v hat hc hj hk H locs ls h1 h2 hw hl hL
  obtain ⟨hd, hlk, hlen⟩ := ipAt_all hat
  obtain ⟨hx, hb, hml, hown, hts, hK, -⟩ := C
  have hv := hl.2.2.2 j v hj
  unfold ipLd at hc
  split at hc
  · split at hc
    · cases hc
      have e : len = 2 := hlen (Nat.succ_ne_zero _)
      subst e
      exact lv_iload hx hb hd hv (hk H locs ls h1 h2 hw hl hL)
    · cases hc
      have e : len = 1 := hlen (Nat.succ_ne_zero _)
      subst e
      exact lv_iload_n hx hb hd rfl hv (hk H locs ls h1 h2 hw hl hL)
    · cases hc
  · split at hc
    · cases hc
      have e : len = 2 := hlen (Nat.succ_ne_zero _)
      subst e
      exact lv_lload hx hb hd hv (hk H locs ls h1 h2 hw hl hL)
    · cases hc
      have e : len = 1 := hlen (Nat.succ_ne_zero _)
      subst e
      exact lv_lload_n hx hb hd rfl hv (hk H locs ls h1 h2 hw hl hL)
    · cases hc
  · split at hc
    · cases hc
      have e : len = 2 := hlen (Nat.succ_ne_zero _)
      subst e
      exact lv_aload hx hb hd hv (hk H locs ls h1 h2 hw hl hL)
    · cases hc
      have e : len = 1 := hlen (Nat.succ_ne_zero _)
      subst e
      exact lv_aload_n hx hb hd rfl hv (hk H locs ls h1 h2 hw hl hL)
    · cases hc
  · cases hc
theorem sd_store (C : ipX p s m args meth c D aC B0 bb cb sc mid) : ru_store sc call mid MC MS Q (ipJ p l e R s m args below meth c Z D aC B0 bb cb (ipM mid) MC MS) := by
  intro pc lv st h z k n i len a b j v hat hc hj hk H locs ls h1 h2 hw hl hL
  obtain ⟨hd, hlk, hlen⟩ := ipAt_all hat
  obtain ⟨hx, hb, hml, hown, hts, hK, -⟩ := C
  rw [hl.2.2.1] at hj
  unfold ipSto at hc
  split at hc
  · have hj : j < ipM mid := hj
    split at hc
    · cases hc
      have e : len = 2 := hlen (Nat.succ_ne_zero _)
      subst e
      exact lv_istore hx hb hd hl.has hj rfl (fun ls2 h3 => hk H locs ls2 h1 h2 hw (hl.set1 rfl h3) hL)
    · cases hc
      have e : len = 1 := hlen (Nat.succ_ne_zero _)
      subst e
      exact lv_istore_n hx hb hd rfl hl.has hj rfl (fun ls2 h3 => hk H locs ls2 h1 h2 hw (hl.set1 rfl h3) hL)
    · cases hc
  · have hj : j + 1 < ipM mid := hj
    split at hc
    · cases hc
      have e : len = 2 := hlen (Nat.succ_ne_zero _)
      subst e
      exact lv_lstore hx hb hd hl.has hj rfl (fun ls2 h3 => hk H locs ls2 h1 h2 hw (hl.set2 rfl h3) hL)
    · cases hc
      have e : len = 1 := hlen (Nat.succ_ne_zero _)
      subst e
      exact lv_lstore_n hx hb hd rfl hl.has hj rfl (fun ls2 h3 => hk H locs ls2 h1 h2 hw (hl.set2 rfl h3) hL)
    · cases hc
  · have hj : j < ipM mid := hj
    split at hc
    · cases hc
      have e : len = 2 := hlen (Nat.succ_ne_zero _)
      subst e
      exact lv_astore hx hb hd hl.has hj rfl (fun ls2 h3 => hk H locs ls2 h1 h2 hw (hl.set1 rfl h3) hL)
    · cases hc
      have e : len = 1 := hlen (Nat.succ_ne_zero _)
      subst e
      exact lv_astore_n hx hb hd rfl hl.has hj rfl (fun ls2 h3 => hk H locs ls2 h1 h2 hw (hl.set1 rfl h3) hL)
    · cases hc
  · cases hc
theorem sd_iinc (C : ipX p s m args meth c D aC B0 bb cb sc mid) : ru_iinc sc call mid MC MS Q (ipJ p l e R s m args below meth c Z D aC B0 bb cb (ipM mid) MC MS) := by
  intro pc lv st h z k n j d len a b x hat hj hk H locs ls h1 h2 hw hl hL
  obtain ⟨hd, hlk, hlen⟩ := ipAt_all hat
  obtain ⟨hx, hb, hml, hown, hts, hK, -⟩ := C
  have e : len = 3 := hlen (Nat.succ_ne_zero _)
  subst e
  have hin := (ipAs_in lv 0 j (.int x)).mpr ⟨j, by omega, hj⟩
  obtain ⟨kk, hkk⟩ := List.mem_iff_getElem?.mp hin
  have hlt : j < ipM mid := by
    have := (List.getElem?_eq_some_iff.mp hj).1
    rw [hl.2.2.1] at this
    exact this
  exact lv_iinc hx hb hd hl.has hkk rfl hlt rfl (fun ls2 h3 => hk H locs ls2 h1 h2 hw (hl.set1 rfl h3) hL)
theorem sd_bin (C : ipX p s m args meth c D aC B0 bb cb sc mid) : ru_bin sc call mid MC MS Q (ipJ p l e R s m args below meth c Z D aC B0 bb cb (ipM mid) MC MS) := by
  intro pc lv st h z k n i len a b x y v hat hc hk H locs ls h1 h2 hw hl hL
  obtain ⟨hd, hlk, hlen⟩ := ipAt_all hat
  obtain ⟨hx, hb, hml, hown, hts, hK, -⟩ := C
  unfold ipBin at hc
  split at hc
  all_goals first | (cases hc; done) | skip
  all_goals
    cases hc
    have e : len = 1 := hlen (Nat.succ_ne_zero _)
    subst e
  · exact lv_iadd hx hb hd (hk H locs ls h1 h2 hw hl hL)
  · exact lv_isub hx hb hd (hk H locs ls h1 h2 hw hl hL)
  · exact lv_imul hx hb hd (hk H locs ls h1 h2 hw hl hL)
  · exact lv_iand hx hb hd (hk H locs ls h1 h2 hw hl hL)
  · exact lv_ior hx hb hd (hk H locs ls h1 h2 hw hl hL)
  · exact lv_ixor hx hb hd (hk H locs ls h1 h2 hw hl hL)
  · exact lv_ishl hx hb hd (hk H locs ls h1 h2 hw hl hL)
  · exact lv_ishr hx hb hd (hk H locs ls h1 h2 hw hl hL)
  · exact lv_iushr hx hb hd rfl (hk H locs ls h1 h2 hw hl hL)
theorem sd_lbin (C : ipX p s m args meth c D aC B0 bb cb sc mid) : ru_lbin sc call mid MC MS Q (ipJ p l e R s m args below meth c Z D aC B0 bb cb (ipM mid) MC MS) := by
  intro pc lv st h z k n i len a b x y v hat hc hk H locs ls h1 h2 hw hl hL
  obtain ⟨hd, hlk, hlen⟩ := ipAt_all hat
  obtain ⟨hx, hb, hml, hown, hts, hK, -⟩ := C
  unfold ipLbin at hc
  split at hc
  all_goals first | (cases hc; done) | skip
  all_goals
    cases hc
    have e : len = 1 := hlen (Nat.succ_ne_zero _)
    subst e
  · exact lv_ladd hx hb hd (hk H locs ls h1 h2 hw hl hL)
  · exact lv_lmul hx hb hd (hk H locs ls h1 h2 hw hl hL)
  · exact lv_lor hx hb hd (hk H locs ls h1 h2 hw hl hL)
  · exact lv_lxor hx hb hd (hk H locs ls h1 h2 hw hl hL)
theorem sd_lsh (C : ipX p s m args meth c D aC B0 bb cb sc mid) : ru_lsh sc call mid MC MS Q (ipJ p l e R s m args below meth c Z D aC B0 bb cb (ipM mid) MC MS) := by
  intro pc lv st h z k n i len a b x y v hat hc hk H locs ls h1 h2 hw hl hL
  obtain ⟨hd, hlk, hlen⟩ := ipAt_all hat
  obtain ⟨hx, hb, hml, hown, hts, hK, -⟩ := C
  unfold ipLsh at hc
  split at hc
  all_goals first | (cases hc; done) | skip
  all_goals
    cases hc
    have e : len = 1 := hlen (Nat.succ_ne_zero _)
    subst e
  · exact lv_lshl hx hb hd rfl (hk H locs ls h1 h2 hw hl hL)
  · exact lv_lshr hx hb hd rfl (hk H locs ls h1 h2 hw hl hL)
  · exact lv_lushr hx hb hd rfl (hk H locs ls h1 h2 hw hl hL)
theorem sd_cv (C : ipX p s m args meth c D aC B0 bb cb sc mid) : ru_cv sc call mid MC MS Q (ipJ p l e R s m args below meth c Z D aC B0 bb cb (ipM mid) MC MS) := by
  intro pc lv st h z k n i len a b x v hat hc hk H locs ls h1 h2 hw hl hL
  obtain ⟨hd, hlk, hlen⟩ := ipAt_all hat
  obtain ⟨hx, hb, hml, hown, hts, hK, -⟩ := C
  unfold ipCv at hc
  split at hc
  · split at hc
    all_goals first | (cases hc; done) | skip
    all_goals
      cases hc
      have e : len = 1 := hlen (Nat.succ_ne_zero _)
      subst e
    · exact lv_i2l hx hb hd rfl (hk H locs ls h1 h2 hw hl hL)
    · exact lv_i2b hx hb hd rfl (hk H locs ls h1 h2 hw hl hL)
    · exact lv_ineg hx hb hd (hk H locs ls h1 h2 hw hl hL)
  · split at hc
    all_goals first | (cases hc; done) | skip
    all_goals
      cases hc
      have e : len = 1 := hlen (Nat.succ_ne_zero _)
      subst e
    · exact lv_l2i hx hb hd rfl (hk H locs ls h1 h2 hw hl hL)
  · cases hc
theorem sd_lcmp (C : ipX p s m args meth c D aC B0 bb cb sc mid) : ru_lcmp sc call mid MC MS Q (ipJ p l e R s m args below meth c Z D aC B0 bb cb (ipM mid) MC MS) := by
  intro pc lv st h z k n len a b x y hat hk H locs ls h1 h2 hw hl hL
  obtain ⟨hd, hlk, hlen⟩ := ipAt_all hat
  obtain ⟨hx, hb, hml, hown, hts, hK, -⟩ := C
  have e : len = 1 := hlen (Nat.succ_ne_zero _)
  subst e
  exact W.lcmp hx hb hd (hk H locs ls h1 h2 hw hl hL)
theorem sd_icmp (C : ipX p s m args meth c D aC B0 bb cb sc mid) : ru_icmp sc call mid MC MS Q (ipJ p l e R s m args below meth c Z D aC B0 bb cb (ipM mid) MC MS) := by
  intro pc lv st h z k n cd off len a b x y hat ht hf H locs ls h1 h2 hw hl hL
  obtain ⟨hd, hlk, hlen⟩ := ipAt_all hat
  obtain ⟨hx, hb, hml, hown, hts, hK, -⟩ := C
  have e : len = 3 := hlen (Nat.succ_ne_zero _)
  subst e
  have htg : (pc : Int) + off = (a : Int) := of_decide_eq_true hlk
  cases cd
  · exact lv_icmp_eq hx hb hd htg (fun q => ht q H locs ls h1 h2 hw hl hL) (fun q => hf q H locs ls h1 h2 hw hl hL)
  · exact lv_icmp_ne hx hb hd htg (fun q => ht q H locs ls h1 h2 hw hl hL) (fun q => hf (fun r => r q) H locs ls h1 h2 hw hl hL)
  · exact lv_icmp_lt hx hb hd htg (fun q => ht q H locs ls h1 h2 hw hl hL) (fun q => hf q H locs ls h1 h2 hw hl hL)
  · exact lv_icmp_ge hx hb hd htg (fun q => ht q H locs ls h1 h2 hw hl hL) (fun q => hf q H locs ls h1 h2 hw hl hL)
  · exact lv_icmp_gt hx hb hd htg (fun q => ht q H locs ls h1 h2 hw hl hL) (fun q => hf q H locs ls h1 h2 hw hl hL)
  · exact lv_icmp_le hx hb hd htg (fun q => ht q H locs ls h1 h2 hw hl hL) (fun q => hf q H locs ls h1 h2 hw hl hL)
theorem sd_if0 (C : ipX p s m args meth c D aC B0 bb cb sc mid) : ru_if0 sc call mid MC MS Q (ipJ p l e R s m args below meth c Z D aC B0 bb cb (ipM mid) MC MS) := by
  intro pc lv st h z k n cd off len a b x hat ht hf H locs ls h1 h2 hw hl hL
  obtain ⟨hd, hlk, hlen⟩ := ipAt_all hat
  obtain ⟨hx, hb, hml, hown, hts, hK, -⟩ := C
  have e : len = 3 := hlen (Nat.succ_ne_zero _)
  subst e
  have htg : (pc : Int) + off = (a : Int) := of_decide_eq_true hlk
  cases cd
  · exact lv_if_eq hx hb hd htg (fun q => ht q H locs ls h1 h2 hw hl hL) (fun q => hf q H locs ls h1 h2 hw hl hL)
  · exact lv_if_ne hx hb hd htg (fun q => ht q H locs ls h1 h2 hw hl hL) (fun q => hf (fun r => r q) H locs ls h1 h2 hw hl hL)
  · exact lv_if_lt hx hb hd htg (fun q => ht q H locs ls h1 h2 hw hl hL) (fun q => hf q H locs ls h1 h2 hw hl hL)
  · exact lv_if_ge hx hb hd htg (fun q => ht q H locs ls h1 h2 hw hl hL) (fun q => hf q H locs ls h1 h2 hw hl hL)
  · exact lv_if_gt hx hb hd htg (fun q => ht q H locs ls h1 h2 hw hl hL) (fun q => hf q H locs ls h1 h2 hw hl hL)
  · exact lv_if_le hx hb hd htg (fun q => ht q H locs ls h1 h2 hw hl hL) (fun q => hf q H locs ls h1 h2 hw hl hL)
theorem sd_goto (C : ipX p s m args meth c D aC B0 bb cb sc mid) : ru_goto sc call mid MC MS Q (ipJ p l e R s m args below meth c Z D aC B0 bb cb (ipM mid) MC MS) := by
  intro pc lv st h z k n off len a b hat hk H locs ls h1 h2 hw hl hL
  obtain ⟨hd, hlk, hlen⟩ := ipAt_all hat
  obtain ⟨hx, hb, hml, hown, hts, hK, -⟩ := C
  have e : len = 3 := hlen (Nat.succ_ne_zero _)
  subst e
  exact lv_goto hx hb hd (of_decide_eq_true hlk) (hk H locs ls h1 h2 hw hl hL)
theorem ipTg_eq {pc : Nat} {off : Int} {t : Nat} (h : ipTg pc off = some t) : (pc : Int) + off = (t : Int) := by
  unfold ipTg at h
  split at h
  · cases h
    omega
  · cases h
theorem sd_tab (C : ipX p s m args meth c D aC B0 bb cb sc mid) : ru_tab sc call mid MC MS Q (ipJ p l e R s m args below meth c Z D aC B0 bb cb (ipM mid) MC MS) := by
  intro pc lv st h z k n d lo hi offs len a b tgt x hat ht hk H locs ls h1 h2 hw hl hL
  obtain ⟨hd, hlk, hlen⟩ := ipAt_all hat
  obtain ⟨hx, hb, hml, hown, hts, hK, -⟩ := C
  unfold ipTab at ht
  split at ht
  · rename_i ho
    exact lv_tableOut hx hb hd ho (ipTg_eq ht) (hk H locs ls h1 h2 hw hl hL)
  · rename_i ho
    split at ht
    · rename_i off hoff
      exact lv_tableIn hx hb hd (fun q => ho (Or.inl q)) (fun q => ho (Or.inr q)) hoff (ipTg_eq ht) (hk H locs ls h1 h2 hw hl hL)
    · cases ht
theorem sd_nonnull (C : ipX p s m args meth c D aC B0 bb cb sc mid) : ru_nonnull sc call mid MC MS Q (ipJ p l e R s m args below meth c Z D aC B0 bb cb (ipM mid) MC MS) := by
  intro pc lv st h z k n off len a b r hat hk H locs ls h1 h2 hw hl hL
  obtain ⟨hd, hlk, hlen⟩ := ipAt_all hat
  obtain ⟨hx, hb, hml, hown, hts, hK, -⟩ := C
  have e : len = 3 := hlen (Nat.succ_ne_zero _)
  subst e
  exact lv_ifnonnull hx hb hd (of_decide_eq_true hlk) (hk H locs ls h1 h2 hw hl hL)
theorem sd_isnull (C : ipX p s m args meth c D aC B0 bb cb sc mid) : ru_isnull sc call mid MC MS Q (ipJ p l e R s m args below meth c Z D aC B0 bb cb (ipM mid) MC MS) := by
  intro pc lv st h z k n off len a b hat hk H locs ls h1 h2 hw hl hL
  obtain ⟨hd, hlk, hlen⟩ := ipAt_all hat
  obtain ⟨hx, hb, hml, hown, hts, hK, -⟩ := C
  have e : len = 3 := hlen (Nat.succ_ne_zero _)
  subst e
  exact lv_ifnonnullN hx hb hd (hk H locs ls h1 h2 hw hl hL)
theorem sd_dup (C : ipX p s m args meth c D aC B0 bb cb sc mid) : ru_dup sc call mid MC MS Q (ipJ p l e R s m args below meth c Z D aC B0 bb cb (ipM mid) MC MS) := by
  intro pc lv st h z k n len a b v hat hv hk H locs ls h1 h2 hw hl hL
  obtain ⟨hd, hlk, hlen⟩ := ipAt_all hat
  obtain ⟨hx, hb, hml, hown, hts, hK, -⟩ := C
  have e : len = 1 := hlen (Nat.succ_ne_zero _)
  subst e
  exact lv_dup hx hb hd hv (hk H locs ls h1 h2 hw hl hL)
theorem sd_dup2 (C : ipX p s m args meth c D aC B0 bb cb sc mid) : ru_dup2 sc call mid MC MS Q (ipJ p l e R s m args below meth c Z D aC B0 bb cb (ipM mid) MC MS) := by
  intro pc lv st h z k n len a b v w hat hv hw2 hk H locs ls h1 h2 hw hl hL
  obtain ⟨hd, hlk, hlen⟩ := ipAt_all hat
  obtain ⟨hx, hb, hml, hown, hts, hK, -⟩ := C
  have e : len = 1 := hlen (Nat.succ_ne_zero _)
  subst e
  exact lv_dup2_11 hx hb hd hv hw2 (hk H locs ls h1 h2 hw hl hL)
theorem sd_pop (C : ipX p s m args meth c D aC B0 bb cb sc mid) : ru_pop sc call mid MC MS Q (ipJ p l e R s m args below meth c Z D aC B0 bb cb (ipM mid) MC MS) := by
  intro pc lv st h z k n len a b v hat hv hk H locs ls h1 h2 hw hl hL
  obtain ⟨hd, hlk, hlen⟩ := ipAt_all hat
  obtain ⟨hx, hb, hml, hown, hts, hK, -⟩ := C
  have e : len = 1 := hlen (Nat.succ_ne_zero _)
  subst e
  exact lv_pop hx hb hd hv (hk H locs ls h1 h2 hw hl hL)
end IPS
