/-! the heap's rules, over the machine -/
theorem ipTys_at {aC : Nat → Nat} {t : Nat} (h : t < 7) : (ipTys aC)[t]? = some (aC t, ipATy t) := by
  match t, h with
  | 0, _ => rfl
  | 1, _ => rfl
  | 2, _ => rfl
  | 3, _ => rfl
  | 4, _ => rfl
  | 5, _ => rfl
  | 6, _ => rfl
  | n + 7, h => exact absurd h (by omega)
theorem ipATy_o {t : Nat} (h4 : 4 ≤ t) (h : t < 7) : ipATy t = .object (ipAC t) := by
  match t, h, h4 with
  | 4, _, _ => rfl
  | 5, _, _ => rfl
  | 6, _, _ => rfl
  | 0, _, h => exact absurd h (by omega)
  | 1, _, h => exact absurd h (by omega)
  | 2, _, h => exact absurd h (by omega)
  | 3, _, h => exact absurd h (by omega)
  | n + 7, h, _ => exact absurd h (by omega)
section IPS
variable {p : Program} {l : Launch} {e : Env} {R : Room} {s : State} {m : MethodId} {args : Array Value} {below : List Frame} {meth : Method} {c : Code} {Z : State → Prop} {D : va_G} {aC : Nat → Nat} {B0 bb : Nat} {cb : Cell} {sc : ipSc} {call : ipCall} {mid MC MS : Nat} {Q : ipQ}
theorem sd_getf (C : ipX p s m args meth c D aC B0 bb cb sc mid) : ru_getf sc call mid MC MS Q (ipJ p l e R s m args below meth c Z D aC B0 bb cb (ipM mid) MC MS) := by
  intro pc lv st h z k n x len ci j r fs v hat hr hv hk H locs ls h1 h2 hw hl hL
  obtain ⟨hd, hlk, hlen⟩ := ipAt_all hat
  obtain ⟨hx, hb, hml, hown, hts, hK, -⟩ := C
  have e : len = 3 := hlen (Nat.succ_ne_zero _)
  subst e
  have hin := ipFL_in hlk
  obtain ⟨hci, hj⟩ := ipFL_lt hin
  have hq := hts _ (ipTW_in (ipFL_w _ hin) rfl)
  exact va_get hx hb hts (ipLay hci) hown hK.1 (va_P1 (hw.2.2.2 r _ hr).2) 0 rfl (ipCls hci) j hj hq (fun _ q => q) hv hd (hk H locs ls h1 h2 hw hl hL)
theorem sd_putf (C : ipX p s m args meth c D aC B0 bb cb sc mid) : ru_putf sc call mid MC MS Q (ipJ p l e R s m args below meth c Z D aC B0 bb cb (ipM mid) MC MS) := by
  intro pc lv st h z kq n x len ci k r fs v hat hr hv hfit hk H locs ls h1 h2 hw hl hL
  obtain ⟨hd, hlk, hlen⟩ := ipAt_all hat
  obtain ⟨hx, hb, hml, hown, hts, hK, hmn, hbb, -⟩ := C
  have e : len = 3 := hlen (Nat.succ_ne_zero _)
  subst e
  have hlk2 : (ipFL.contains (ipO mid, x, ci, k) && (!(ipT ci k).2.2.2 || ((ipY mid).name == "<init>" && ci == ipO mid))) = true := hlk
  rw [Bool.and_eq_true] at hlk2
  obtain ⟨hin0, hfin⟩ := hlk2
  have hin := ipFL_in hin0
  obtain ⟨hci, hj⟩ := ipFL_lt hin
  have hq := hts _ (ipTW_in (ipFL_w _ hin) rfl)
  have hP := va_P1 (hw.2.2.2 r _ hr).2
  have hc := ipCls hci
  have hap := va_apart (own := ipCN (ipO mid)) hts (ipLay hci) (ipTyf ci) (ipTyD hci) (ipNm hci) hK.1 hc
  obtain ⟨q0, g1, cell, q1, q2, q3, q4⟩ := hP 0 _ rfl
  have hr0 : q0 = (ipCN ci, ipTf ci, ipN ci) := Option.some.inj (g1.symm.trans hc)
  subst hr0
  obtain ⟨hS, hfc, kC, hkC, hkind⟩ := hK.1.1 ci _ hc
  obtain ⟨cf, kf, fi, f, hi, hsl⟩ := hS k hj
  have hlay := hts _ (ipLay hci _ (u_in_lay hj))
  have hst := (u_facts hfc hkC (u_lays hts (ipLay hci) hj) hi).1
  have fin : ∀ H' : Heap, H'[r]? = some (cell.setSlot (D.2 ci k) v) → H'.size = H.size → (∀ q, q ≠ r → H'[q]? = H[q]?) → ipW D aC B0 bb cb (hup h r (.inr (ci, fs.set k v))) z H' := by
    intro H' e1 e2 e3
    exact hw.put hbb hr e2 e3 ⟨_, hc, t_OB.to (V := updV (vp_V fs) k v) ⟨_, e1, q2, q3, t_set q4 hap hj v⟩ (fun j _ => vp_updV_set hv v j)⟩
  have hd0 := ipTyD hci k hj
  by_cases hF : (ipT ci k).2.2.2 = false
  · unfold u_lay at hlay
    rw [if_neg (by show ¬ (ipT ci k).2.2.2 = true; rw [hF]; decide)] at hlay
    have h6 := u_store hfc hkC hkind hlay hi hd0 hfit.1 hfit.2
    refine W.putK hx hb (f := f) ⟨hown, hq, ⟨_, _, _, hi⟩, hst⟩ (by rw [q2]; exact h6) q1 q3 (by rw [hsl]; exact k2_hasslot (q4 k hj)) rfl rfl hd fun H' e1 e2 e3 => ?_
    rw [hsl] at e1 ⊢
    refine hk H' _ ls h1 h2 (fin H' e1 e2 e3) hl fun q hq2 => ?_
    rcases List.mem_append.mp hq2 with q5 | q5
    · exact hL q q5
    · rw [List.mem_singleton.mp q5]
      exact (hw.2.2.2 r _ hr).1
  · have hF : (ipT ci k).2.2.2 = true := by
      cases hq3 : (ipT ci k).2.2.2
      · exact absurd hq3 hF
      · rfl
    rw [hF] at hfin
    simp only [Bool.not_true, Bool.false_or, Bool.and_eq_true, beq_iff_eq] at hfin
    unfold u_lay at hlay
    rw [if_pos (show (ipTf ci k).2.2.2 = true from hF)] at hlay
    have hdecl : (ipTf ci k).1 = ipCN (ipO mid) := by
      rw [← hfin.2]
      have hall : ((List.range 10).all (fun ci => (List.range (ipN ci)).all (fun k => decide ((ipT ci k).1 = ipCN ci)))) = true := by decide +kernel
      exact of_decide_eq_true (List.all_eq_true.mp (List.all_eq_true.mp hall ci (List.mem_range.mpr hci)) k (List.mem_range.mpr hj))
    have hcf : m.cls = cf := by
      obtain ⟨_, _, c', _, _, _, -, -, hf', -, -, -, hown2, -⟩ := Cond.laysFinal_spec hlay
      have e1 : c' = cf := by have := hi.symm.trans hf'; simp at this; exact this.1.symm
      rw [hdecl] at hown2
      rw [← e1]; exact Option.some.inj (hown.symm.trans hown2)
    have h6 := u_fits hfc hkC hkind (Or.inr hlay) hi hd0 hfit.1 hfit.2
    refine W.putFinK hx hb hown hq hi hst hcf (hmn hfin.1) (by rw [q2]; exact h6) q1 q3 (by rw [hsl]; exact k2_hasslot (q4 k hj)) rfl rfl hd fun H' e1 e2 e3 => ?_
    rw [hsl] at e1 ⊢
    refine hk H' _ ls h1 h2 (fin H' e1 e2 e3) hl fun q hq2 => ?_
    rcases List.mem_append.mp hq2 with q5 | q5
    · exact hL q q5
    · rw [List.mem_singleton.mp q5]
      exact (hw.2.2.2 r _ hr).1
theorem sd_iald (C : ipX p s m args meth c D aC B0 bb cb sc mid) : ru_iald sc call mid MC MS Q (ipJ p l e R s m args below meth c Z D aC B0 bb cb (ipM mid) MC MS) := by
  intro pc lv st h z k n len a b r nn f i hat hr hi hk H locs ls h1 h2 hw hl hL
  obtain ⟨hd, hlk, hlen⟩ := ipAt_all hat
  obtain ⟨hx, hb, hml, hown, hts, hK, -⟩ := C
  have e : len = 1 := hlen (Nat.succ_ne_zero _)
  subst e
  exact va_iald hx hb hK.1 (va_P1 (hw.2.2.2 r _ hr).2) 0 0 rfl rfl hi hd (hk H locs ls h1 h2 hw hl hL)
theorem sd_bald (C : ipX p s m args meth c D aC B0 bb cb sc mid) : ru_bald sc call mid MC MS Q (ipJ p l e R s m args below meth c Z D aC B0 bb cb (ipM mid) MC MS) := by
  intro pc lv st h z k n len a b r nn t f i hat hr ht hi hk H locs ls h1 h2 hw hl hL
  obtain ⟨hd, hlk, hlen⟩ := ipAt_all hat
  obtain ⟨hx, hb, hml, hown, hts, hK, -⟩ := C
  have e : len = 1 := hlen (Nat.succ_ne_zero _)
  subst e
  rcases ht with rfl | rfl
  · exact va_bald hx hb hK.1 (va_P1 (hw.2.2.2 r _ hr).2) 0 2 rfl rfl hi hd (hk H locs ls h1 h2 hw hl hL)
  · exact va_zald hx hb hK.1 (va_P1 (hw.2.2.2 r _ hr).2) 0 3 rfl rfl hi hd (hk H locs ls h1 h2 hw hl hL)
theorem sd_lald (C : ipX p s m args meth c D aC B0 bb cb sc mid) : ru_lald sc call mid MC MS Q (ipJ p l e R s m args below meth c Z D aC B0 bb cb (ipM mid) MC MS) := by
  intro pc lv st h z k n len a b r nn f i hat hr hi hk H locs ls h1 h2 hw hl hL
  obtain ⟨hd, hlk, hlen⟩ := ipAt_all hat
  obtain ⟨hx, hb, hml, hown, hts, hK, -⟩ := C
  have e : len = 1 := hlen (Nat.succ_ne_zero _)
  subst e
  exact va_lald hx hb hK.1 (va_P1 (hw.2.2.2 r _ hr).2) 0 1 rfl rfl hi hd (hk H locs ls h1 h2 hw hl hL)
theorem sd_aald (C : ipX p s m args meth c D aC B0 bb cb sc mid) : ru_aald sc call mid MC MS Q (ipJ p l e R s m args below meth c Z D aC B0 bb cb (ipM mid) MC MS) := by
  intro pc lv st h z k n len a b r nn t f i hat hr ht hi hk H locs ls h1 h2 hw hl hL
  obtain ⟨hd, hlk, hlen⟩ := ipAt_all hat
  obtain ⟨hx, hb, hml, hown, hts, hK, -⟩ := C
  have e : len = 1 := hlen (Nat.succ_ne_zero _)
  subst e
  rcases ht with rfl | rfl | rfl
  · exact va_aldq hx hb hK.1 (va_P1 (hw.2.2.2 r _ hr).2) 0 4 rfl rfl hi hd (hk H locs ls h1 h2 hw hl hL)
  · exact va_aldq hx hb hK.1 (va_P1 (hw.2.2.2 r _ hr).2) 0 5 rfl rfl hi hd (hk H locs ls h1 h2 hw hl hL)
  · exact va_aldq hx hb hK.1 (va_P1 (hw.2.2.2 r _ hr).2) 0 6 rfl rfl hi hd (hk H locs ls h1 h2 hw hl hL)
theorem sd_sald (C : ipX p s m args meth c D aC B0 bb cb sc mid) : ru_sald sc call mid MC MS Q (ipJ p l e R s m args below meth c Z D aC B0 bb cb (ipM mid) MC MS) := by
  intro pc lv st h z k n len a b i hat hi hk H locs ls h1 h2 hw hl hL
  obtain ⟨hd, hlk, hlen⟩ := ipAt_all hat
  obtain ⟨hx, hb, hml, hown, hts, hK, -, -, hbe⟩ := C
  have e : len = 1 := hlen (Nat.succ_ne_zero _)
  subst e
  obtain ⟨-, ⟨g2, g3, g4, g5⟩, -⟩ := hK
  have hlt : i.toNatClampNeg < sc.2.1 := Nat.not_le.mp fun q => hi (Or.inr q)
  exact W.iald (v := .int (sc.2.2 i.toNatClampNeg)) hx hb (by rw [hbe]; exact hw.2.1) g2 g3 (by rw [g4]; exact hi) (g5 _ hlt) rfl rfl hd (hk H locs ls h1 h2 hw hl hL)
theorem sd_alen (C : ipX p s m args meth c D aC B0 bb cb sc mid) : ru_alen sc call mid MC MS Q (ipJ p l e R s m args below meth c Z D aC B0 bb cb (ipM mid) MC MS) := by
  intro pc lv st h z k n len a b r t x hat hr ht hk H locs ls h1 h2 hw hl hL
  obtain ⟨hd, hlk, hlen⟩ := ipAt_all hat
  obtain ⟨hx, hb, hml, hown, hts, hK, -⟩ := C
  have e : len = 1 := hlen (Nat.succ_ne_zero _)
  subst e
  exact va_alen hx hb hK.1 (va_P1 (hw.2.2.2 r _ hr).2) 0 t rfl (ipTys_at ht) rfl hd (hk H locs ls h1 h2 hw hl hL)
theorem sd_slen (C : ipX p s m args meth c D aC B0 bb cb sc mid) : ru_slen sc call mid MC MS Q (ipJ p l e R s m args below meth c Z D aC B0 bb cb (ipM mid) MC MS) := by
  intro pc lv st h z k n len a b hat hk H locs ls h1 h2 hw hl hL
  obtain ⟨hd, hlk, hlen⟩ := ipAt_all hat
  obtain ⟨hx, hb, hml, hown, hts, hK, -, -, hbe⟩ := C
  have e : len = 1 := hlen (Nat.succ_ne_zero _)
  subst e
  obtain ⟨-, ⟨g2, g3, g4, g5⟩, -⟩ := hK
  exact W.alen (n := Int32.ofNat sc.2.1) hx hb (by rw [hbe]; exact hw.2.1) g2 (by rw [g4] <;> rfl) rfl rfl hd (hk H locs ls h1 h2 hw hl hL)
theorem ipLoc {locs : List Loc} {r j : Nat} (hL : ∀ q ∈ locs, B0 ≤ q.base) (hr : B0 ≤ r) : ∀ q ∈ locs ++ [⟨r, j⟩], B0 ≤ q.base := fun q hq => by
  rcases List.mem_append.mp hq with q5 | q5
  · exact hL q q5
  · rw [List.mem_singleton.mp q5]
    exact hr
theorem sd_iast (C : ipX p s m args meth c D aC B0 bb cb sc mid) : ru_iast sc call mid MC MS Q (ipJ p l e R s m args below meth c Z D aC B0 bb cb (ipM mid) MC MS) := by
  intro pc lv st h z k n len a b r nn f i x hat hr hi hk H locs ls h1 h2 hw hl hL
  obtain ⟨hd, hlk, hlen⟩ := ipAt_all hat
  obtain ⟨hx, hb, hml, hown, hts, hK, -, hbb, -⟩ := C
  have e : len = 1 := hlen (Nat.succ_ne_zero _)
  subst e
  obtain ⟨hB, hat2⟩ := hw.2.2.2 r _ hr
  refine W.iast hx hb hat2 ((hK.1.2 0 _ rfl).1 nn (fun j => .int (f j))) (fun q => by cases q) (by show ¬ (i < 0 ∨ (arrV _ _ _).slots.size ≤ _); rw [arrV_size]; exact hi) rfl rfl hd fun H1 e z1 oq => ?_
  refine hk H1 _ ls h1 h2 (hw.put hbb hr z1 oq ?_) hl (ipLoc hL hB)
  show H1[r]? = some (vp_cell _ _)
  rw [e]
  rw [vp_cell_i, vp_cell_i, arrV_store]
  congr 2
  funext q
  by_cases hq : q = i.toNatClampNeg
  · subst hq
    simp [updV, upd]
  · simp [updV, upd, hq]
theorem sd_bast (C : ipX p s m args meth c D aC B0 bb cb sc mid) : ru_bast sc call mid MC MS Q (ipJ p l e R s m args below meth c Z D aC B0 bb cb (ipM mid) MC MS) := by
  intro pc lv st h z k n len a b r nn f i x hat hr hi hk H locs ls h1 h2 hw hl hL
  obtain ⟨hd, hlk, hlen⟩ := ipAt_all hat
  obtain ⟨hx, hb, hml, hown, hts, hK, -, hbb, -⟩ := C
  have e : len = 1 := hlen (Nat.succ_ne_zero _)
  subst e
  obtain ⟨hB, hat2⟩ := hw.2.2.2 r _ hr
  refine W.bast hx hb hat2 ((hK.1.2 2 _ rfl).1 nn (fun j => .int (f j))) (fun q => by cases q) (by show ¬ (i < 0 ∨ (arrV _ _ _).slots.size ≤ _); rw [arrV_size]; exact hi) rfl rfl hd fun H1 e z1 oq => ?_
  refine hk H1 _ ls h1 h2 (hw.put hbb hr z1 oq ?_) hl (ipLoc hL hB)
  show H1[r]? = some (vp_cell _ _)
  rw [e]
  rw [vp_cell_i, vp_cell_i, arrV_store]
  congr 2
  funext q
  by_cases hq : q = i.toNatClampNeg
  · subst hq
    simp [updV, upd, vp_nar]
    try rfl
  · simp [updV, upd, hq]
theorem sd_zast (C : ipX p s m args meth c D aC B0 bb cb sc mid) : ru_zast sc call mid MC MS Q (ipJ p l e R s m args below meth c Z D aC B0 bb cb (ipM mid) MC MS) := by
  intro pc lv st h z k n len a b r nn f i x hat hr hi hk H locs ls h1 h2 hw hl hL
  obtain ⟨hd, hlk, hlen⟩ := ipAt_all hat
  obtain ⟨hx, hb, hml, hown, hts, hK, -, hbb, -⟩ := C
  have e : len = 1 := hlen (Nat.succ_ne_zero _)
  subst e
  obtain ⟨hB, hat2⟩ := hw.2.2.2 r _ hr
  refine W.zast hx hb hat2 ((hK.1.2 3 _ rfl).1 nn (fun j => .int (f j))) (fun q => by cases q) (by show ¬ (i < 0 ∨ (arrV _ _ _).slots.size ≤ _); rw [arrV_size]; exact hi) rfl rfl hd fun H1 e z1 oq => ?_
  refine hk H1 _ ls h1 h2 (hw.put hbb hr z1 oq ?_) hl (ipLoc hL hB)
  show H1[r]? = some (vp_cell _ _)
  rw [e]
  rw [vp_cell_i, vp_cell_i, arrV_store]
  congr 2
  funext q
  by_cases hq : q = i.toNatClampNeg
  · subst hq
    simp [updV, upd, vp_nar]
    try rfl
  · simp [updV, upd, hq]
theorem sd_last (C : ipX p s m args meth c D aC B0 bb cb sc mid) : ru_last sc call mid MC MS Q (ipJ p l e R s m args below meth c Z D aC B0 bb cb (ipM mid) MC MS) := by
  intro pc lv st h z k n len a b r nn f i x hat hr hi hk H locs ls h1 h2 hw hl hL
  obtain ⟨hd, hlk, hlen⟩ := ipAt_all hat
  obtain ⟨hx, hb, hml, hown, hts, hK, -, hbb, -⟩ := C
  have e : len = 1 := hlen (Nat.succ_ne_zero _)
  subst e
  obtain ⟨hB, hat2⟩ := hw.2.2.2 r _ hr
  refine W.last hx hb hat2 ((hK.1.2 1 _ rfl).1 nn (fun j => .long (f j))) (fun q => by cases q) (by show ¬ (i < 0 ∨ (arrV _ _ _).slots.size ≤ _); rw [arrV_size]; exact hi) rfl rfl hd fun H1 e z1 oq => ?_
  refine hk H1 _ ls h1 h2 (hw.put hbb hr z1 oq ?_) hl (ipLoc hL hB)
  show H1[r]? = some (vp_cell _ _)
  rw [e]
  rw [vp_cell_l, vp_cell_l, arrV_store]
  congr 2
  funext q
  by_cases hq : q = i.toNatClampNeg
  · subst hq
    simp [updV, vp_updL]
  · simp [updV, vp_updL, hq]
theorem ipElt_ok {t : Nat} (ht : t = 4 ∨ t = 5 ∨ t = 6) : ipElt t < 10 ∧ ipCN (ipElt t) = ipAC t ∧ t < 7 ∧ 4 ≤ t := by
  rcases ht with rfl | rfl | rfl
  · exact ⟨by decide, rfl, by decide, by decide⟩
  · exact ⟨by decide, rfl, by decide, by decide⟩
  · exact ⟨by decide, rfl, by decide, by decide⟩
theorem sd_aast (C : ipX p s m args meth c D aC B0 bb cb sc mid) : ru_aast sc call mid MC MS Q (ipJ p l e R s m args below meth c Z D aC B0 bb cb (ipM mid) MC MS) := by
  intro pc lv st h z k n len a b r nn t v vs f i hat hr ht hv hi hk H locs ls h1 h2 hw hl hL
  obtain ⟨hd, hlk, hlen⟩ := ipAt_all hat
  obtain ⟨hx, hb, hml, hown, hts, hK, -, hbb, -⟩ := C
  have e : len = 1 := hlen (Nat.succ_ne_zero _)
  subst e
  obtain ⟨hB, hat2⟩ := hw.2.2.2 r _ hr
  obtain ⟨hE1, hE2, hE3, hE4⟩ := ipElt_ok ht
  have hlt : i.toNatClampNeg < nn := Nat.not_le.mp fun q => hi (Or.inr q)
  have h0 : ¬ i < 0 := fun q => hi (Or.inl q)
  obtain ⟨r', hr', cellV, g1, g2, g3, -⟩ := (hw.2.2.2 v _ hv).2
  have hc := ipCls hE1
  have hcls := (hK.1.1 (ipElt t) _ hc).2
  have hty := ipTys_at (aC := aC) hE3
  rw [ipATy_o hE4 hE3] at hty
  obtain ⟨kA, comp, k1, k2, k3, -⟩ := (hK.1.2 t _ hty).2
  rw [← hE2] at k3
  have hcomp : comp = D.1 (ipElt t) := Option.some.inj (k3.symm.trans hcls.1)
  subst hcomp
  obtain ⟨kC, hkC, -⟩ := hcls.2
  refine W.aast hx hb hat2 (fun q h => by cases h) (fun h => by cases h) k1 k2 rfl hkC ⟨h0, by show _ < (arrV _ _ _).slots.size; rw [arrV_size]; exact hlt⟩ g1 (fun q h => by rw [g3] at h; cases h) (by rw [g2]; exact hkC) (by rw [g2]; exact va_assign hcls) rfl rfl hd fun H1 e z1 oq => ?_
  refine hk H1 _ ls h1 h2 (hw.put hbb hr z1 oq ?_) hl (ipLoc hL hB)
  show H1[r]? = some (vp_cell _ _)
  rw [e]
  rw [vp_cell_q, vp_cell_q, arrV_store]
  congr 2
  funext q
  by_cases hq : q = i.toNatClampNeg
  · subst hq
    simp [updV, va_up, va_rf]
  · simp [updV, va_up, hq]
set_option maxRecDepth 100000 in
theorem ipCL_r : ipCL.all (fun q => decide (q.2.2 < 10) && (decide (Cond.instantiable (ipCN q.2.2) (ipN q.2.2) ∈ lw_tbl) && decide (Cond.initialized (ipCN q.2.2) ∈ lw_tbl))) = true := by decide +kernel
theorem ipDef_V {ci j : Nat} (hj : j < ipN ci) : defaultValue (ipTyf ci j) = vp_V (ipDef ci) j := by
  unfold vp_V ipDef
  rw [List.getD_eq_getElem?_getD, List.getElem?_map, List.getElem?_range hj]
  rfl
theorem sd_new (C : ipX p s m args meth c D aC B0 bb cb sc mid) (hR : R.cells = MC ∧ R.slots = MS) : ru_new sc call mid MC MS Q (ipJ p l e R s m args below meth c Z D aC B0 bb cb (ipM mid) MC MS) := by
  intro pc lv st h z k n x len ci b hat hc1 hs1 hk H locs ls h1 h2 hw hl hL
  obtain ⟨hd, hlk, hlen⟩ := ipAt_all hat
  obtain ⟨hx, hb, hml, hown, hts, hK, -, hbb, -⟩ := C
  have e : len = 3 := hlen (Nat.succ_ne_zero _)
  subst e
  have hin : (ipO mid, x, ci) ∈ ipCL := List.contains_iff_mem.mp hlk
  have hr := List.all_eq_true.mp ipCL_r _ hin
  simp only [Bool.and_eq_true, decide_eq_true_eq] at hr
  obtain ⟨hci, hr1, hr2⟩ := hr
  have hc := ipCls hci
  have hKn := hK.1.1 ci _ hc
  refine W.newcK hx hb hown (hts _ (ipTW_in (ipCL_w _ hin) rfl)) (hts _ (ipTW_in hr1 rfl)) (hts _ (ipTW_in hr2 rfl)) rfl hd (by rw [hR.1]; exact hc1) (by rw [hR.2]; exact hs1) hKn.2.1 hw.1 fun H1 kC hkC e1 z1 o1 => ?_
  exact hk H1 locs ls hc1 hs1 (hw.push hbb z1 o1 ⟨_, hc, (u_born (ipTyf ci) hts (ipLay hci) hKn hkC e1 (ipTyD hci)).to (fun j hj => ipDef_V hj)⟩) hl hL
theorem ipArr_cell {t N cA : Nat} (h : t < 4) : vp_cell cA (ipArr t N) = arrV cA N (fun _ => defaultValue (ipATy t)) := by
  match t, h with
  | 0, _ => rfl
  | 1, _ => rfl
  | 2, _ => rfl
  | 3, _ => rfl
  | n + 4, h => exact absurd h (by omega)
theorem ipNA_w : ∀ t, t < 4 → Cond.arrayClass (ipATy t) ∈ lw_tbl := by
  have h : (List.range 4).all (fun t => decide (Cond.arrayClass (ipATy t) ∈ lw_tbl)) = true := by decide +kernel
  exact fun t ht => of_decide_eq_true (List.all_eq_true.mp h t (List.mem_range.mpr ht))
theorem ipComp {t : Nat} (h : t < 4) : componentBytes (ipATy t) ≤ 8 := by
  match t, h with
  | 0, _ => decide
  | 1, _ => decide
  | 2, _ => decide
  | 3, _ => decide
  | n + 4, h => exact absurd h (by omega)
theorem sd_newa (C : ipX p s m args meth c D aC B0 bb cb sc mid) (hR : R.cells = MC ∧ R.slots = MS) : ru_newa sc call mid MC MS Q (ipJ p l e R s m args below meth c Z D aC B0 bb cb (ipM mid) MC MS) := by
  intro pc lv st h z k n at0 len t b N nn hat hn hN hby hc1 hs1 hk H locs ls h1 h2 hw hl hL
  obtain ⟨hd, hlk, hlen⟩ := ipAt_all hat
  obtain ⟨hx, hb, hml, hown, hts, hK, -, hbb, -⟩ := C
  have e : len = 2 := hlen (Nat.succ_ne_zero _)
  subst e
  have hlk2 : (decide (newarray.typeOf at0 = ipATy t) && decide (t < 4)) = true := hlk
  simp only [Bool.and_eq_true, decide_eq_true_eq] at hlk2
  obtain ⟨ht, ht4⟩ := hlk2
  have hw1 : (Cond.arrayClass (newarray.typeOf at0)).before args s = true := by rw [ht]; exact hts _ (ipTW_in (ipNA_w t ht4) rfl)
  refine va_newaK hx hb hw1 rfl hd rfl hn hN (by rw [ht]; exact Nat.le_trans (Nat.mul_le_mul_left N (ipComp ht4)) hby) (by rw [hR.1]; exact hc1) (by rw [hR.2]; exact hs1) hw.1 fun H1 cA e1 z1 o1 hAr hNm => ?_
  have hra := (hK.1.2 t _ (ipTys_at (aC := aC) (by omega))).2
  have hcA : cA = aC t := by
    rw [ht] at hNm
    have : s.vm.findClass ("[" ++ (ipATy t).toString) = some (aC t) := by
      match t, ht4, hra with
      | 0, _, hra => exact hra
      | 1, _, hra => exact hra
      | 2, _, hra => exact hra
      | 3, _, hra => exact hra
      | n + 4, h, _ => exact absurd h (by omega)
    exact Option.some.inj (hNm.symm.trans this)
  subst hcA
  refine hk H1 locs ls hc1 hs1 (hw.push hbb z1 o1 ?_) hl hL
  show H1[z]? = some (vp_cell (aC t) (ipArr t N))
  rw [ipArr_cell ht4, e1, ht]
set_option maxRecDepth 100000 in
theorem ipAL_r : ipAL.all (fun q => decide (4 ≤ q.2.2) && decide (q.2.2 < 7)) = true := by decide +kernel
theorem sd_newq (C : ipX p s m args meth c D aC B0 bb cb sc mid) (hR : R.cells = MC ∧ R.slots = MS) : ru_newq sc call mid MC MS Q (ipJ p l e R s m args below meth c Z D aC B0 bb cb (ipM mid) MC MS) := by
  intro pc lv st h z k n x len t b N nn hat hn hN hby hc1 hs1 hk H locs ls h1 h2 hw hl hL
  obtain ⟨hd, hlk, hlen⟩ := ipAt_all hat
  obtain ⟨hx, hb, hml, hown, hts, hK, -, hbb, -⟩ := C
  have e : len = 3 := hlen (Nat.succ_ne_zero _)
  subst e
  have hin : (ipO mid, x, t) ∈ ipAL := List.contains_iff_mem.mp hlk
  have hr := List.all_eq_true.mp ipAL_r _ hin
  simp only [Bool.and_eq_true, decide_eq_true_eq] at hr
  obtain ⟨ht4, ht7⟩ := hr
  subst hN
  refine W.anew hx hb hown (hts _ (ipTW_in (ipAL_w _ hin) rfl)) (va_AO.use (hK.2.2.2 t ht4 ht7)) rfl hd rfl hn (by omega) (by rw [hR.1]; exact hc1) (by rw [hR.2]; exact hs1) fun cA kA comp f1 f2 f3 f4 => ?_
  have hty := ipTys_at (aC := aC) ht7
  rw [ipATy_o ht4 ht7] at hty
  obtain ⟨kA', comp', k1, k2, k3, k4⟩ := (hK.1.2 t _ hty).2
  have hcA : cA = aC t := Option.some.inj (f1.symm.trans k4)
  subst hcA
  generalize hH1 : H.push ({ cls := aC t, slots := Array.replicate nn.toNatClampNeg .null, vm := .none } : Cell) = H1
  have z1 : H1.size = H.size + 1 := by rw [← hH1, Array.size_push]
  have e1 : H1[H.size]? = some (arrV (aC t) nn.toNatClampNeg (fun _ => .null)) := by rw [← hH1, Array.getElem?_push_size, ← arrV_new]
  have o1 : ∀ q : Nat, q < H.size → H1[q]? = H[q]? := fun q hq => by rw [← hH1, Array.getElem?_push, if_neg (Nat.ne_of_lt hq)]
  have hz := hw.1
  subst hz
  refine hk H1 locs ls hc1 hs1 (hw.push hbb z1 o1 ?_) hl hL
  show H1[H.size]? = some (vp_cell _ _)
  rw [e1]
  rfl
end IPS
