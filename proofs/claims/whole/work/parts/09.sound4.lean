/-! calls and returns, over the machine; the whole of it: ip_met -/
def ipWs (md : Nat) : List Cond := Cond.code (ipY md) (ipB md) (ipM md) (ipR md) :: ipTW
def ipRm (d mc ms : Nat) : Room := { frames := d, cells := mc, slots := ms, locals := 64 * d }
def ipPc (D : va_G) (aC : Nat → Nat) (B0 bb : Nat) (cb : Cell) (sc : ipSc) (vs : List Value) (h : HP) (z : Nat) : Array Value → State → Prop := va_Pc vs (fun U => ipW D aC B0 bb cb h z U.heap ∧ ipK D aC cb sc U)
def ipQc (D : va_G) (aC : Nat → Nat) (B0 bb : Nat) (cb : Cell) (P : ipQ) : Array Value → State → Outcome → State → Prop := fun _ _ o t => ∃ (r : Option Value) (h2 : HP) (z2 : Nat), o = .returned r ∧ P r h2 z2 ∧ ipW D aC B0 bb cb h2 z2 t.heap
set_option maxRecDepth 100000 in
theorem ipVL_r : ipVL.all (fun q => decide (q.2.2.1 < 152) && (decide (ipO q.2.2.1 < 10) && decide ((parseMethodDescriptor (ipY q.2.2.1).desc).map (fun d => d.parameters.length) = some q.2.2.2))) = true := by decide +kernel
set_option maxRecDepth 100000 in
theorem ipIL_r : (ipIL ++ ipNL).all (fun q => decide (q.2.2.1 < 152) && (decide ((ipY q.2.2.1).name = "<init>") && (decide (ipR q.2.2.1 = none) && decide ((parseMethodDescriptor (ipY q.2.2.1).desc).map (fun d => d.parameters.length) = some q.2.2.2)))) = true := by decide +kernel
set_option maxRecDepth 100000 in
theorem ipSL_r : ipSL.all (fun q => decide (q.2.2.1 < 152) && (decide (Cond.static (ipY q.2.2.1) ∈ lw_tbl) && decide ((parseMethodDescriptor (ipY q.2.2.1).desc).map (fun d => d.parameters.length) = some q.2.2.2))) = true := by decide +kernel
set_option maxRecDepth 100000 in
theorem ipMisc0 : decide (Cond.instanceMethod Lib.objectInit ∈ lw_tbl) && (decide (Cond.code Lib.objectInit ⟨#[0xb1]⟩ 1 none ∈ lw_tbl) && (decide (Cond.native arraycopyName ∈ lw_tbl) && (decide (Cond.static arraycopyName ∈ lw_tbl) && decide (Cond.initialized "java/lang/System" ∈ lw_tbl)))) = true := by decide +kernel
theorem ipMisc : Cond.instanceMethod Lib.objectInit ∈ lw_tbl ∧ Cond.code Lib.objectInit ⟨#[0xb1]⟩ 1 none ∈ lw_tbl ∧ Cond.native arraycopyName ∈ lw_tbl ∧ Cond.static arraycopyName ∈ lw_tbl ∧ Cond.initialized "java/lang/System" ∈ lw_tbl := by
  have h := ipMisc0
  simp only [Bool.and_eq_true, decide_eq_true_eq] at h
  exact h
theorem ipGood {md : Nat} (h : md < 152) : GoodIn ipTW (ipWs md) := by
  intro w hw
  rcases List.mem_cons.mp hw with rfl | hw
  · exact ⟨ipTW_in (ipMeth h).1 rfl, good_of_word rfl⟩
  · exact ⟨hw, good_of_word (List.mem_filter.mp hw).2⟩
theorem ipPc_blind {D : va_G} {aC : Nat → Nat} {B0 bb : Nat} {cb : Cell} {sc : ipSc} {vs : List Value} {h : HP} {z : Nat} : FrameBlind (ipPc D aC B0 bb cb sc vs h z) := by
  intro a U g mk q
  obtain ⟨q0, q1, q2⟩ := q
  exact ⟨q0, q1, q2.same (U := U.calling g mk a) rfl⟩
section IPS
variable {p : Program} {l : Launch} {e : Env} {R : Room} {s : State} {m : MethodId} {args : Array Value} {below : List Frame} {meth : Method} {c : Code} {Z : State → Prop} {D : va_G} {aC : Nat → Nat} {B0 bb : Nat} {cb : Cell} {sc : ipSc} {call : ipCall} {mid MC MS d : Nat} {Q : ipQ}
theorem ip_run {H : Heap} {locs : List Loc} {k n mc ms pc : Nat} {ls : Array Slot} {st0 rest vs : List Value} {P : ipQ} (hr : va_Run p l e R s m args below meth c H locs k n mc ms (F0 m pc ls st0) rest (ipQc D aC B0 bb cb P vs.toArray) (fun q => B0 ≤ q)) (hL : ∀ q ∈ locs, B0 ≤ q.base)
    (kk : ∀ (o : Option Value) (h2 : HP) (z2 : Nat) (H1 : Heap) (locs1 : List Loc), P o h2 z2 → ipW D aC B0 bb cb h2 z2 H1 → (∀ q ∈ locs1, B0 ≤ q.base) → W p l e R s m args below meth c H1 locs1 (k + mc) (n + ms) Z (F0 m (pc + 3) ls (o.toList ++ rest))) : W p l e R s m args below meth c H locs k n Z (F0 m pc ls st0) := by
  intro T hT X
  obtain ⟨v, st₀, t, T', L, h0, X', hL2, e1, e2, ⟨r, h2, z2, hv, hp, hw⟩, st⟩ := hr T hT X
  cases hv
  rw [← e1] at hw
  obtain ⟨t2, a1, b1⟩ := kk v h2 z2 T'.heap (locs ++ L) hp hw (fun q hq => by
    rcases List.mem_append.mp hq with h | h
    · exact hL q h
    · exact hL2 q h) T' rfl X'
  exact ⟨t2, st t2 a1, b1⟩
theorem sd_virt (C : ipX p s m args meth c D aC B0 bb cb sc mid) (hR : R.cells = MC ∧ R.slots = MS ∧ d + 1 ≤ R.frames ∧ 64 * (d + 1) ≤ R.locals) (hcall : ∀ (md : Nat) (vs : List Value) (h : HP) (z mc ms : Nat) (P : ipQ), md < 152 → call md vs h z mc ms P → Met l (ipY md) (ipWs md) (ipRm d mc ms) (ipPc D aC B0 bb cb sc vs h z) (ipQc D aC B0 bb cb P) mc ms (fun q => B0 ≤ q)) : ru_virt sc call mid MC MS Q (ipJ p l e R s m args below meth c Z D aC B0 bb cb (ipM mid) MC MS) := by
  intro pc lv st h z k n x len md nn r mc ms fs As rest P hat hA hrest hr hc1 hs1 hca hst hk H locs ls h1 h2 hw hl hL
  obtain ⟨hd, hlk, hlen⟩ := ipAt_all hat
  obtain ⟨hx, hb, hml, hown, hts, hK, -, hbb, -⟩ := C
  have e : len = 3 := hlen (Nat.succ_ne_zero _)
  subst e
  have hin : (ipO mid, x, md, nn) ∈ ipVL := List.contains_iff_mem.mp hlk
  have hr1 := List.all_eq_true.mp ipVL_r _ hin
  simp only [Bool.and_eq_true, decide_eq_true_eq] at hr1
  obtain ⟨hmd, ho, hsig⟩ := hr1
  obtain ⟨g1, g2, g3, g4, g5, g6, g7⟩ := ipMeth hmd
  have hmem : md ∈ ipVM := List.contains_iff_mem.mp (List.all_eq_true.mp ipVL_m _ hin)
  have hins := ipVinW md hmem
  have hsel := ipSelW md hmem
  have cb0 := callB_of (R := R) (mc := mc) (ms := ms) (rm := ipRm d mc ms) nn hts (ipGood hmd) rfl rfl rfl (hts _ (ipTW_in g2 rfl)) (hts _ (ipTW_in (ipVL_w _ hin) rfl)) ⟨g5, g6, hsig⟩ ⟨hR.2.2.1, by show 8 + (ipM md + 11) + 64 * d ≤ R.locals; omega⟩
  refine ip_run (vs := .ref r :: As) (va_runV (C := ipCN (ipO md)) (As := As) (rest := rest) (nL := ipM mid) ⟨hx, hb, hml, hown, hts⟩ (hcall md _ h z mc ms P hmd hca) ⟨cb0, hts _ (ipTW_in hins rfl), hts _ (ipTW_in hsel rfl)⟩ ⟨ipPc_blind, va_recv hK.1 (va_P1 (hw.2.2.2 r _ hr).2) (ci := ipO md) (q0 := 0) (ipCls ho) rfl, fun U hU hW => ⟨rfl, by rw [hU]; exact hw, hK.warm hW⟩⟩ rfl hA hl.1 hst (by show 2 * 0 + _ ≤ 8; omega) hd ⟨by rw [hR.1]; exact hc1, by rw [hR.2.1]; exact hs1⟩) hL fun o h2 z2 H1 locs1 hp hw1 hL1 => ?_
  exact hk o h2 z2 hp H1 locs1 ls hc1 hs1 hw1 hl hL1
theorem sd_spec (C : ipX p s m args meth c D aC B0 bb cb sc mid) (hR : R.cells = MC ∧ R.slots = MS ∧ d + 1 ≤ R.frames ∧ 64 * (d + 1) ≤ R.locals) (hcall : ∀ (md : Nat) (vs : List Value) (h : HP) (z mc ms : Nat) (P : ipQ), md < 152 → call md vs h z mc ms P → Met l (ipY md) (ipWs md) (ipRm d mc ms) (ipPc D aC B0 bb cb sc vs h z) (ipQc D aC B0 bb cb P) mc ms (fun q => B0 ≤ q)) : ru_spec sc call mid MC MS Q (ipJ p l e R s m args below meth c Z D aC B0 bb cb (ipM mid) MC MS) := by
  intro pc lv st h z k n x len md nn r mc ms As rest P hat hA hrest hc1 hs1 hlt hca hst hk H locs ls h1 h2 hw hl hL
  obtain ⟨hd, hlk, hlen⟩ := ipAt_all hat
  obtain ⟨hx, hb, hml, hown, hts, hK, -, hbb, -⟩ := C
  have e : len = 3 := hlen (Nat.succ_ne_zero _)
  subst e
  have hlk2 : (if md = 999 then ipOL.contains (ipO mid, x) else ipIL.contains (ipO mid, x, md, nn) || ipNL.contains (ipO mid, x, md, nn)) = true := hlk
  rw [if_neg (by omega), Bool.or_eq_true] at hlk2
  have hin0 : (ipO mid, x, md, nn) ∈ ipIL ∨ (ipO mid, x, md, nn) ∈ ipNL := hlk2.imp List.contains_iff_mem.mp List.contains_iff_mem.mp
  have hin : (ipO mid, x, md, nn) ∈ ipIL ++ ipNL := List.mem_append.mpr hin0
  have hr1 := List.all_eq_true.mp ipIL_r _ hin
  simp only [Bool.and_eq_true, decide_eq_true_eq] at hr1
  obtain ⟨hmd, hnm, hrt, hsig⟩ := hr1
  obtain ⟨g1, g2, g3, g4, g5, g6, g7⟩ := ipMeth hmd
  have hmem : md ∈ ipIM := List.contains_iff_mem.mp (List.all_eq_true.mp ipIL_m _ hin)
  have hins := ipIinW md hmem
  have hws : ipWs md = Cond.code (ipY md) (ipB md) (ipM md) none :: ipTW := by unfold ipWs; rw [hrt]
  have hroom : (ipRm d mc ms).frames + 1 ≤ R.frames ∧ 8 + (ipM md + 11) + (ipRm d mc ms).locals ≤ R.locals := ⟨hR.2.2.1, by show 8 + (ipM md + 11) + 64 * d ≤ R.locals; omega⟩
  rcases hin0 with hq | hq
  · have cb0 := callB_of (R := R) (mc := mc) (ms := ms) (rm := ipRm d mc ms) nn hts (ipGood hmd) hws rfl rfl (hts _ (ipTW_in g2 rfl)) (hts _ (ipTW_in (ipIL_w _ hq) rfl)) ⟨g5, g6, hsig⟩ hroom
    refine ip_run (vs := .ref r :: As) (va_runI (As := As) (rest := rest) (nL := ipM mid) ⟨hx, hb, hml, hown, hts⟩ (hcall md _ h z mc ms P hmd hca) ⟨cb0, hnm, hts _ (ipTW_in hins rfl)⟩ ⟨ipPc_blind, fun U hU hW => ⟨rfl, by rw [hU]; exact hw, hK.warm hW⟩⟩ rfl hA hl.1 hst (by show 2 * 0 + _ ≤ 8; omega) hd ⟨by rw [hR.1]; exact hc1, by rw [hR.2.1]; exact hs1⟩) hL fun o h2 z2 H1 locs1 hp hw1 hL1 => ?_
    exact hk o h2 z2 hp H1 locs1 ls hc1 hs1 hw1 hl hL1
  · have cb0 := va_cnB (R := R) (mc := mc) (ms := ms) (rm := ipRm d mc ms) nn hts (ipGood hmd) hws rfl rfl (hK.2.2.1 _ hq) (hts _ (ipTW_in g2 rfl)) ⟨g5, g6, hsig⟩ hroom
    refine ip_run (vs := .ref r :: As) (va_runIN (As := As) (rest := rest) (nL := ipM mid) ⟨hx, hb, hml, hown, hts⟩ (hcall md _ h z mc ms P hmd hca) ⟨cb0, hnm, hts _ (ipTW_in hins rfl)⟩ ⟨ipPc_blind, fun U hU hW => ⟨rfl, by rw [hU]; exact hw, hK.warm hW⟩⟩ rfl hA hl.1 hst (by show 2 * 0 + _ ≤ 8; omega) hd ⟨by rw [hR.1]; exact hc1, by rw [hR.2.1]; exact hs1⟩) hL fun o h2 z2 H1 locs1 hp hw1 hL1 => ?_
    exact hk o h2 z2 hp H1 locs1 ls hc1 hs1 hw1 hl hL1
theorem sd_stat (C : ipX p s m args meth c D aC B0 bb cb sc mid) (hR : R.cells = MC ∧ R.slots = MS ∧ d + 1 ≤ R.frames ∧ 64 * (d + 1) ≤ R.locals) (hcall : ∀ (md : Nat) (vs : List Value) (h : HP) (z mc ms : Nat) (P : ipQ), md < 152 → call md vs h z mc ms P → Met l (ipY md) (ipWs md) (ipRm d mc ms) (ipPc D aC B0 bb cb sc vs h z) (ipQc D aC B0 bb cb P) mc ms (fun q => B0 ≤ q)) : ru_stat sc call mid MC MS Q (ipJ p l e R s m args below meth c Z D aC B0 bb cb (ipM mid) MC MS) := by
  intro pc lv st h z k n x len md nn mc ms As rest P hat hA hrest hc1 hs1 hlt hca hst hk H locs ls h1 h2 hw hl hL
  obtain ⟨hd, hlk, hlen⟩ := ipAt_all hat
  obtain ⟨hx, hb, hml, hown, hts, hK, -, hbb, -⟩ := C
  have e : len = 3 := hlen (Nat.succ_ne_zero _)
  subst e
  have hlk2 : (if md = 998 then ipXL.contains (ipO mid, x) else ipSL.contains (ipO mid, x, md, nn)) = true := hlk
  rw [if_neg (by omega)] at hlk2
  have hin : (ipO mid, x, md, nn) ∈ ipSL := List.contains_iff_mem.mp hlk2
  have hr1 := List.all_eq_true.mp ipSL_r _ hin
  simp only [Bool.and_eq_true, decide_eq_true_eq] at hr1
  obtain ⟨hmd, hstat, hsig⟩ := hr1
  obtain ⟨g1, g2, g3, g4, g5, g6, g7⟩ := ipMeth hmd
  have cb0 := callB_of (R := R) (mc := mc) (ms := ms) (rm := ipRm d mc ms) nn hts (ipGood hmd) rfl rfl rfl (hts _ (ipTW_in g2 rfl)) (hts _ (ipTW_in (ipSL_w _ hin) rfl)) ⟨g5, g6, hsig⟩ ⟨hR.2.2.1, by show 8 + (ipM md + 11) + 64 * d ≤ R.locals; omega⟩
  refine ip_run (vs := As) (va_runS (As := As) (rest := rest) (nL := ipM mid) ⟨hx, hb, hml, hown, hts⟩ (hcall md _ h z mc ms P hmd hca) ⟨cb0, hts _ (ipTW_in hstat rfl)⟩ ⟨ipPc_blind, fun U hU hW => ⟨rfl, by rw [hU]; exact hw, hK.warm hW⟩⟩ rfl hA hl.1 hst (by show 2 * 0 + _ ≤ 8; omega) hd ⟨by rw [hR.1]; exact hc1, by rw [hR.2.1]; exact hs1⟩) hL fun o h2 z2 H1 locs1 hp hw1 hL1 => ?_
  exact hk o h2 z2 hp H1 locs1 ls hc1 hs1 hw1 hl hL1
theorem sd_objinit (C : ipX p s m args meth c D aC B0 bb cb sc mid) (hR : R.cells = MC ∧ R.slots = MS ∧ d + 1 ≤ R.frames ∧ 64 * (d + 1) ≤ R.locals) : ru_objinit sc call mid MC MS Q (ipJ p l e R s m args below meth c Z D aC B0 bb cb (ipM mid) MC MS) := by
  intro pc lv st h z k n x len b r hat hrest hk H locs ls h1 h2 hw hl hL
  obtain ⟨hd, hlk, hlen⟩ := ipAt_all hat
  obtain ⟨hx, hb, hml, hown, hts, hK, -, hbb, -⟩ := C
  have e : len = 3 := hlen (Nat.succ_ne_zero _)
  subst e
  have hlk2 : (if (999 : Nat) = 999 then ipOL.contains (ipO mid, x) else ipIL.contains (ipO mid, x, 999, b) || ipNL.contains (ipO mid, x, 999, b)) = true := hlk
  rw [if_pos rfl] at hlk2
  have hin : (ipO mid, x) ∈ ipOL := List.contains_iff_mem.mp hlk2
  exact W.objInit hx hb hown (hts _ (ipTW_in (ipOL_w _ hin) rfl)) (hts _ (ipTW_in ipMisc.1 rfl)) (hts _ (ipTW_in ipMisc.2.1 rfl)) rfl (hl.1.trans hml.symm) rfl hd (by omega) (by show 2 * 0 + _ + 12 ≤ R.locals; omega) (hk H locs ls h1 h2 hw hl hL)
theorem sd_copy (C : ipX p s m args meth c D aC B0 bb cb sc mid) (hR : R.cells = MC ∧ R.slots = MS ∧ d + 1 ≤ R.frames ∧ 64 * (d + 1) ≤ R.locals) : ru_copy sc call mid MC MS Q (ipJ p l e R s m args below meth c Z D aC B0 bb cb (ipM mid) MC MS) := by
  intro pc lv st h z k nq x len b a0 a n0 n1 f g sp dp n hat hrest hr0 hr1 k1 k2 k3 k4 k5 hne hk H locs ls h1 h2 hw hl hL
  obtain ⟨hd, hlk, hlen⟩ := ipAt_all hat
  obtain ⟨hx, hb, hml, hown, hts, hK, -, hbb, -⟩ := C
  have e : len = 3 := hlen (Nat.succ_ne_zero _)
  subst e
  have hlk2 : (if (998 : Nat) = 998 then ipXL.contains (ipO mid, x) else ipSL.contains (ipO mid, x, 998, b)) = true := hlk
  rw [if_pos rfl] at hlk2
  have hin : (ipO mid, x) ∈ ipXL := List.contains_iff_mem.mp hlk2
  obtain ⟨-, -, w1, w2, w3⟩ := ipMisc
  have nn : ∀ z : Int32, ¬ z < 0 → z.toInt = (z.toNatClampNeg : Int) := by
    intro z hz
    have hz0 : (0 : Int) ≤ z.toInt := by
      have := Int32.not_lt.mp hz
      simpa using Int32.le_iff_toInt_le.mp this
    show z.toInt = ((z.toInt.toNat : Nat) : Int)
    omega
  obtain ⟨hB, hc1⟩ := hw.2.2.2 a _ hr1
  have hc0 := (hw.2.2.2 a0 _ hr0).2
  have hc0 : H[a0]? = some (vp_cell (aC 0) (n0, .inl f)) := hc0
  have hc1 : H[a]? = some (vp_cell (aC 0) (n1, .inl g)) := hc1
  intro T hT X
  obtain ⟨-, k0, hk0, cm0, hkk0⟩ := (hK.1.2 0 _ rfl).1 n0 (fun j => .int (f j))
  obtain ⟨-, k1', hk1, cm1, hkk1⟩ := (hK.1.2 0 _ rfl).1 n1 (fun j => .int (g j))
  obtain ⟨vm', X', step⟩ := X.arraycopy hx hown (hts _ (ipTW_in (ipXL_w _ hin) rfl)) (hts _ (ipTW_in w1 rfl)) (hts _ (ipTW_in w2 rfl)) (hts _ (ipTW_in w3 rfl)) (src := a0) (dst := a) (cs := vp_cell (aC 0) (n0, .inl f)) (cd := vp_cell (aC 0) (n1, .inl g)) (srcPos := sp) (destPos := dp) (n := n) (by rw [hT]; exact hc0) (by rw [hT]; exact hc1)
    (fun _ h => by cases h) (fun _ h => by cases h) (fun h => by cases h) (fun h => by cases h) hk0 hk1 hkk0 hkk1 (by rfl) k1 k2 k3
    (by rw [nn sp k1, nn n k3]; show ¬ _ > ((arrV (aC 0) n0 (fun j => .int (f j))).slots.size : Int); rw [arrV_size]; omega)
    (by rw [nn dp k2, nn n k3]; show ¬ _ > ((arrV (aC 0) n1 (fun j => .int (g j))).slots.size : Int); rw [arrV_size]; omega)
    (fun vm₁ _ i hi => by
      have e : (vp_cell (aC 0) (n0, .inl f)).slots.getD (sp.toNatClampNeg + i) .null = .int (f (sp.toNatClampNeg + i)) := by
        show (arrV (aC 0) n0 (fun j => .int (f j))).slots.getD _ _ = _
        rw [Array.getD_eq_getD_getElem?, arrV_read _ _ (by omega)]
        rfl
      refine ⟨?_, ?_⟩
      · rw [e]
        rfl
      · rw [e]
        exact trivial)
    (g := F0 m pc ls (.int n :: .int dp :: .ref a :: .int sp :: .ref a0 :: st)) rfl (hl.1.trans hml.symm) (rest := st) rfl (by rw [hb]; exact hd) (by omega) (by show 2 * 0 + _ + (7 + 11) ≤ _; omega)
  have e1 : copied (vp_cell (aC 0) (n0, .inl f)) (vp_cell (aC 0) (n1, .inl g)) sp dp n = vp_cell (aC 0) (n1, .inl (va_cpy f g sp.toNatClampNeg dp.toNatClampNeg n.toNatClampNeg)) := va_copied (fun z => .int z) (aC 0) (aC 0) f g k4
  rw [e1] at X' step
  have hl2 : a < H.size := (Array.getElem?_eq_some_iff.mp hc1).1
  have hheap : ((T.setVm vm').setCell a (vp_cell (aC 0) (n1, .inl (va_cpy f g sp.toNatClampNeg dp.toNatClampNeg n.toNatClampNeg)))).heap = H.setIfInBounds a (vp_cell (aC 0) (n1, .inl (va_cpy f g sp.toNatClampNeg dp.toNatClampNeg n.toNatClampNeg))) := by rw [← hT]; rfl
  have oq : ∀ q : Nat, q ≠ a → (H.setIfInBounds a (vp_cell (aC 0) (n1, .inl (va_cpy f g sp.toNatClampNeg dp.toNatClampNeg n.toNatClampNeg))))[q]? = H[q]? := fun q hq => by simp [Array.getElem?_setIfInBounds, Ne.symm hq]
  obtain ⟨t, a1, b1⟩ := hk _ _ ls h1 h2 (hw.put (x1 := .inl (0, n1, .inl (va_cpy f g sp.toNatClampNeg dp.toNatClampNeg n.toNatClampNeg))) hbb hr1 (by simp) oq (show (H.setIfInBounds a _)[a]? = some _ by simp [Array.getElem?_setIfInBounds, hl2])) hl (fun q hq => by
      rcases List.mem_append.mp hq with h | h
      · exact hL q h
      · obtain ⟨z, -, hz⟩ := List.mem_map.mp h
        rw [← hz]
        exact hB) _ hheap X'
  exact ⟨t, step t a1, b1⟩
/-- what is proved by the rules holds of the machine -/
theorem ip_sound (C : ipX p s m args meth c D aC B0 bb cb sc mid) (hR : R.cells = MC ∧ R.slots = MS ∧ d + 1 ≤ R.frames ∧ 64 * (d + 1) ≤ R.locals) (hcall : ∀ (md : Nat) (vs : List Value) (h : HP) (z mc ms : Nat) (P : ipQ), md < 152 → call md vs h z mc ms P → Met l (ipY md) (ipWs md) (ipRm d mc ms) (ipPc D aC B0 bb cb sc vs h z) (ipQc D aC B0 bb cb P) mc ms (fun q => B0 ≤ q))
    (z1 : ru_iret sc call mid MC MS Q (ipJ p l e R s m args below meth c Z D aC B0 bb cb (ipM mid) MC MS)) (z2 : ru_vret sc call mid MC MS Q (ipJ p l e R s m args below meth c Z D aC B0 bb cb (ipM mid) MC MS)) (z3 : ru_aret sc call mid MC MS Q (ipJ p l e R s m args below meth c Z D aC B0 bb cb (ipM mid) MC MS))
    {pc : Nat} {lv : ipV} {st : List Value} {h : HP} {z k n : Nat} (hi : ip sc call mid MC MS Q pc lv st h z k n) : ipJ p l e R s m args below meth c Z D aC B0 bb cb (ipM mid) MC MS pc lv st h z k n :=
  hi _ ⟨sd_weak, sd_con C, sd_load C, sd_store C, sd_iinc C, sd_bin C, sd_lbin C, sd_lsh C, sd_cv C, sd_lcmp C, sd_icmp C, sd_if0 C, sd_goto C, sd_tab C, sd_nonnull C, sd_isnull C, sd_dup C, sd_dup2 C, sd_pop C, sd_getf C, sd_putf C, sd_iald C, sd_bald C, sd_lald C, sd_aald C, sd_sald C, sd_alen C, sd_slen C, sd_iast C, sd_bast C, sd_zast C, sd_last C, sd_aast C, sd_new C ⟨hR.1, hR.2.1⟩, sd_newa C ⟨hR.1, hR.2.1⟩, sd_newq C ⟨hR.1, hR.2.1⟩, z1, z2, z3, sd_virt C hR hcall, sd_spec C hR hcall, sd_stat C hR hcall, sd_objinit C hR, sd_copy C hR⟩
end IPS
theorem ipIn_ok {nL : Nat} {vs : List Value} (hle : (ipArgs vs).length ≤ nL) {ls : Array Slot} (h : lv_has ls nL (lv_args 0 vs)) : ipL ls nL (ipIn nL vs) := by
  refine ⟨h.1, h.2.1, by unfold ipIn; simp; omega, fun n v hn => ?_⟩
  have key : ∀ (vs : List Value) (k n : Nat) (v : Value), (ipArgs vs)[n]? = some (some v) → (k + n, v) ∈ lv_args k vs := by
    intro vs
    induction vs with
    | nil => intro k n v hn; simp [ipArgs] at hn
    | cons w ws ih =>
      intro k n v hn
      unfold ipArgs at hn
      unfold lv_args
      by_cases hc : w.category = 2
      · rw [if_pos hc] at hn
        rw [if_pos hc]
        match n, hn with
        | 0, hn => simp at hn; rw [hn]; exact List.mem_cons_self
        | 1, hn => simp at hn
        | n + 2, hn =>
          have := ih (k + 2) n v (by simpa using hn)
          rw [show k + (n + 2) = k + 2 + n by omega]
          exact List.mem_cons_of_mem _ this
      · rw [if_neg hc] at hn
        rw [if_neg hc]
        match n, hn with
        | 0, hn => simp at hn; rw [hn]; exact List.mem_cons_self
        | n + 1, hn =>
          have := ih (k + 1) n v (by simpa using hn)
          rw [show k + (n + 1) = k + 1 + n by omega]
          exact List.mem_cons_of_mem _ this
  unfold ipIn at hn
  by_cases hl : n < (ipArgs vs).length
  · rw [List.getElem?_append_left hl] at hn
    have := h.2.2 _ (key vs 0 n v hn)
    simpa using this
  · rw [List.getElem?_append_right (by omega), List.getElem?_replicate] at hn
    split at hn
    · simp at hn
    · cases hn
theorem ipArgs_len : ∀ vs : List Value, (lg_sl vs).length = (ipArgs vs).length
  | [] => rfl
  | v :: vs => by
    have ih := ipArgs_len vs
    unfold ipArgs
    simp only [lg_sl, List.flatMap_cons, List.length_append] at ih ⊢
    rw [ih]
    cases v <;> simp [Value.category, slotsOf] <;> omega
