/-! every method, by its rules; the law's start -/
set_option maxHeartbeats 4000000 in
theorem ip_met (l : Launch) {D : va_G} {aC : Nat → Nat} {B0 bb : Nat} {cb : Cell} {sc : ipSc} (hbb : bb < B0) (hsc : sc.1 = bb) : ∀ (d md : Nat) (vs : List Value) (h : HP) (z MC MS : Nat) (Q : ipQ), md < 152 → ipC sc d md vs h z MC MS Q → Met l (ipY md) (ipWs md) (ipRm d MC MS) (ipPc D aC B0 bb cb sc vs h z) (ipQc D aC B0 bb cb Q) MC MS (fun q => B0 ≤ q)
  | 0, _, _, _, _, _, _, _, _, hc => hc.elim
  | d + 1, md, vs, h, z, MC, MS, Q, hmd, hc => by
    obtain ⟨hle, hip⟩ := hc
    obtain ⟨g1, g2, g3, g4, g5, g6, g7⟩ := ipMeth hmd
    refine Met.ofW (cc := ipB md) (maxL := ipM md) (ret := ipR md) g7 rfl ?_
    intro p e s m args below meth c s₁ B hml hv
    obtain ⟨rfl, hw, hK⟩ := hv
    have hx := B.exec
    have hb := B.bytes
    have hr := B.returns
    have hts := atoms_spec (ws := ipWs md) B.pre
    have hown : s.vm.findClass (ipY md).cls = some m.cls := findClass_of_methodNamed B.named
    have hlocks := B.notSynchronized
    have hin : meth.name = (ipY md).name := (name_of_methodNamed B.named B.method).1
    rw [g4] at hown
    have C : ipX p s m vs.toArray meth c D aC B0 bb cb sc md := ⟨hx, hb, hml, hown, fun w hw => hts w (List.mem_cons_of_mem _ hw), hK, fun q => hin.trans q, hbb, hsc⟩
    have hl := lv_entry vs (n := ipM md) (by rw [ipArgs_len]; exact hle)
    rw [lg_entry_eq]
    generalize (lg_sl vs ++ List.replicate (ipM md - (lg_sl vs).length) Slot.unset).toArray = ls at hl ⊢
    have hl2 := ipIn_ok hle hl
    have hR : (headSpec (ipWs md) (ipRm (d + 1) MC MS)).room.cells = MC ∧ (headSpec (ipWs md) (ipRm (d + 1) MC MS)).room.slots = MS ∧ d + 1 ≤ (headSpec (ipWs md) (ipRm (d + 1) MC MS)).room.frames ∧ 64 * (d + 1) ≤ (headSpec (ipWs md) (ipRm (d + 1) MC MS)).room.locals := ⟨rfl, rfl, Nat.le_refl _, Nat.le_refl _⟩
    refine ip_sound (d := d) (Z := MQ below (ipQc D aC B0 bb cb Q) vs.toArray s MC MS (fun q => B0 ≤ q)) C hR (fun md2 vs2 h2 z2 mc ms P hm2 hc2 => ip_met l hbb hsc d md2 vs2 h2 z2 mc ms P hm2 hc2) ?_ ?_ ?_ hip s.heap [] ls (Nat.zero_le _) (Nat.zero_le _) hw hl2 (fun q hq => by cases hq)
    · intro pc lv st h2 z2 k n len a b v ty hat hr2 hn hq H locs ls2 k1 k2 hw2 hl3 hL
      obtain ⟨hd, hlk, hlen⟩ := ipAt_all hat
      have e1 : len = 1 := hlen (Nat.succ_ne_zero _)
      subst e1
      refine W.widen k1 k2 ?_
      exact W.zret hx hb (hr.trans hr2) hn (fun t ht _ => ⟨_, _, _, rfl, hq, by rw [ht]; exact hw2⟩) hL hd
    · intro pc lv st h2 z2 k n len a b hat hr2 hq H locs ls2 k1 k2 hw2 hl3 hL
      obtain ⟨hd, hlk, hlen⟩ := ipAt_all hat
      have e1 : len = 1 := hlen (Nat.succ_ne_zero _)
      subst e1
      refine W.widen k1 k2 ?_
      exact W.vret hx hb (hr.trans hr2) (fun t ht _ => ⟨_, _, _, rfl, hq, by rw [ht]; exact hw2⟩) hL hd
    · intro pc lv st h2 z2 k n len a b r o hat hr2 hq H locs ls2 k1 k2 hw2 hl3 hL
      obtain ⟨hd, hlk, hlen⟩ := ipAt_all hat
      have e1 : len = 1 := hlen (Nat.succ_ne_zero _)
      subst e1
      refine W.widen k1 k2 ?_
      exact W.aret hx hb (hr.trans hr2) (Or.inl ⟨o, rfl⟩) (Or.inr ⟨r, rfl⟩) (fun t ht _ => ⟨_, _, _, rfl, hq, by rw [ht]; exact hw2⟩) hL hd
-- the classes at the start
theorem ipKn0 {args : Array Value} {s : State} (hts : ∀ w ∈ lw_tbl, w.before args s = true) {ci : Nat} (hci : ci < 10) : ∃ (cC : ClassId) (iS : Nat → Nat), u_Kn s (ipCN ci) (ipTf ci) (ipN ci) cC iS := by
  have hall : (List.range 10).all (fun ci => decide (Cond.instantiable (ipCN ci) (ipN ci) ∈ lw_tbl)) = true := by decide +kernel
  have h1 := of_decide_eq_true (List.all_eq_true.mp hall ci (List.mem_range.mpr hci))
  exact u_known (n := ipN ci) hts (fun w hw => (List.mem_filter.mp (ipLay hci w hw)).1) (hts _ h1)
theorem ipKn {args : Array Value} {s : State} (hts : ∀ w ∈ lw_tbl, w.before args s = true) : ∃ D : va_G, ∀ (k : Nat) (q : vw_C), vwCl[k]? = some q → u_Kn s q.1 q.2.1 q.2.2 (D.1 k) (D.2 k) := by
  have h : ∀ k, ∃ r : ClassId × (Nat → Nat), k < 10 → u_Kn s (ipCN k) (ipTf k) (ipN k) r.1 r.2 := by
    intro k
    by_cases hk : k < 10
    · obtain ⟨a, b, hab⟩ := ipKn0 hts hk
      exact ⟨(a, b), fun _ => hab⟩
    · exact ⟨(0, fun _ => 0), fun q => absurd q hk⟩
  refine ⟨(fun k => (Classical.choose (h k)).1, fun k => (Classical.choose (h k)).2), fun k q hq => ?_⟩
  have hk : k < 10 := (List.getElem?_eq_some_iff.mp hq).1
  have hc := ipCls hk
  rw [hc] at hq
  cases hq
  exact Classical.choose_spec (h k) hk
theorem ipAr {args : Array Value} {s : State} (hts : ∀ w ∈ lw_tbl, w.before args s = true) : ∃ aC : Nat → Nat, ∀ (k : Nat) (q : ClassId × FieldType), (ipTys aC)[k]? = some q → ArrOfT s q.1 q.2 ∧ va_RA s q.1 q.2 := by
  have hao : (List.range 3).all (fun t => decide (Cond.arrayOver (.object (ipAC (t + 4))) ∈ lw_tbl)) = true := by decide +kernel
  have h : ∀ k, ∃ cA : Nat, k < 7 → ArrOfT s cA (ipATy k) ∧ va_RA s cA (ipATy k) := by
    intro k
    by_cases h4 : k < 4
    · obtain ⟨cc, kk, comp, e1, e2, e3⟩ := Cond.arrayClass_spec (hts _ (ipNA_w k h4))
      refine ⟨cc, fun _ => ⟨fun n z => ⟨fun j h => (by cases h), kk, e2, comp, e3⟩, ?_⟩⟩
      match k, h4, e1 with
      | 0, _, e1 => exact e1
      | 1, _, e1 => exact e1
      | 2, _, e1 => exact e1
      | 3, _, e1 => exact e1
      | n + 4, h, _ => exact absurd h (by omega)
    · by_cases h7 : k < 7
      · have hw := of_decide_eq_true (List.all_eq_true.mp hao (k - 4) (List.mem_range.mpr (by omega)))
        rw [show k - 4 + 4 = k by omega] at hw
        obtain ⟨comp, cc, kk, e1, e2, e3, e4, e5⟩ := Cond.arrayOver_spec (hts _ hw)
        refine ⟨cc, fun _ => ?_⟩
        rw [ipATy_o (by omega) h7]
        exact ⟨fun n z => ⟨fun j h => (by cases h), kk, e3, comp, e4⟩, kk, comp, e3, e4, e1, e5⟩
      · exact ⟨0, fun q => absurd q h7⟩
  refine ⟨fun k => Classical.choose (h k), fun k q hq => ?_⟩
  have hk : k < 7 := (List.getElem?_eq_some_iff.mp hq).1
  rw [ipTys_at hk] at hq
  cases hq
  exact Classical.choose_spec (h k) hk
def lawDepth : Nat := 100
def lawQ : ipQ := fun o _ _ => o = some (.int 1)
/-- what is left to prove: over the rules, the law answers 1 -/
def LawGoal : Prop := ∀ (b L z : Nat) (xs : Nat → Int32), L ≤ 3584 → b < z → ip (b, L, xs) (ipC (b, L, xs) lawDepth) 152 600000 7302250 lawQ 0 [some (.ref b), none, none, none] [] (fun _ => none) z 0 0
