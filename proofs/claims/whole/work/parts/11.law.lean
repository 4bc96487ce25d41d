/-! THE CLAIM OUT OF ONE WALK OF THE LAW'S BODY. Your part is whole_start (and what it stands on); all else here is the same for every law, but numbers. -/
def R_law : String := "SproutTableLaw"
def lw_P (b : Addr) (xs : List Int32) (args : Array Value) (s : State) : Prop := args = #[.ref b] ∧ s.IntsAt b xs ∧ xs.length ≤ 3584 ∧ (Jvm.Cond.and given_1 narrow_1).before args s = true
def lw_Q (_ : Array Value) (s : State) (o : Outcome) (t : State) : Prop := o = .returned (some (.int 1)) ∧ Framed s o t [] 600000 7302250
def lw_Z (below : List Frame) (a : Array Value) (s : State) : State → Prop := fun t => ∃ o, t.status = .running ∧ Ended t below o ∧ lw_Q a s o t
/-- the law's own end, with 1 on the stack, nothing written that was there before, its room as the claim has it -/
theorem lw_ret {p : Program} {l : Launch} {e : Env} {s : State} {m : MethodId} {below : List Frame} {meth : Method} {c : Code} {b : Nat} (hx : p.tables.exec = Jvm.exec) (hb : c.code = code) (hr : meth.sig.returnType = ret) (hlocks : meth.locks = false) {pc : Nat} {H : Heap} {ls : Array Slot} (hdg : decode code pc = .ok (.ireturn, 1)) : W p l e room_1 s m #[Value.ref b] below meth c H [] 600000 7302250 (lw_Z below #[Value.ref b] s) (F0 m pc ls [.int 1]) := by
  intro T hT X
  obtain ⟨fs, hret, hrun, hended, hW, hframe⟩ := X.leave (v := some (.int 1)) (hlocks := hlocks) (fun h => by rw [hr] at h; cases h)
  have hmeth' : T.vm.method? m = some meth := X.method'
  refine ⟨T.setFrames fs, ?_, .returned (some (.int 1)), hrun, hended, rfl, ⟨_, rfl⟩, hW, hframe⟩
  jvm_step X.here [X.here.top, hx, hb, hdg, hmeth', hr, ret, narrow_b1]
  (try refine ⟨rfl, ?_⟩); (try refine ⟨rfl, ?_⟩)
  first | (intro acts; rw [hret _ acts rfl rfl rfl]) | rw [hret _ _ rfl rfl rfl]
  exact Steps.refl _
/-- what holds at the law's entry: the machine, the code, the tables' words (any of lw_tbl by 'hts w (by decide +kernel)'), the script of L ints xs at the cell b, what the Statement gives of the start (any of its parts by flat_of_before) -/
def lw_At (p : Program) (s : State) (m : MethodId) (meth : Method) (c : Code) (b L : Nat) (xs : Nat → Int32) : Prop :=
  p.tables.exec = Jvm.exec ∧ c.code = code ∧ meth.sig.returnType = ret ∧ c.maxLocals = 4 ∧ s.vm.findClass R_law = some m.cls ∧ (∀ w ∈ lw_tbl, w.before #[Value.ref b] s = true) ∧ va_X b L xs s s.heap ∧ b < s.heap.size ∧ meth.locks = false ∧ (Jvm.Cond.and given_1 narrow_1).before #[Value.ref b] s = true
set_option maxHeartbeats 4000000 in
theorem whole_of (hgoal : LawGoal) {p : Program} {e : Env} {s : State} {m : MethodId} {below : List Frame} {meth : Method} {c : Code} (l : Launch) {b L : Nat} {xs : Nat → Int32} (hL : L ≤ 3584) (C0 : lw_At p s m meth c b L xs) : W p l e room_1 s m #[Value.ref b] below meth c s.heap [] 0 0 (lw_Z below #[Value.ref b] s) (entryFrame m ([Value.ref b] : List Value).toArray 4) := by
  obtain ⟨hx, hb, hr, hml, hown, hts, hX, hbl, hlocks, hgv⟩ := id C0
  obtain ⟨D, hD⟩ := ipKn hts
  obtain ⟨aC, hA⟩ := ipAr hts
  obtain ⟨scr, x1, x2, x3, x4, x5⟩ := hX
  have hK : ipK D aC scr (b, L, xs) s := by
    refine ⟨⟨hD, hA⟩, ⟨x2, x3, x4, x5⟩, fun q hq => va_Nw.of rfl (hts _ (ipNL_w q hq)), fun t h4 h7 => ?_⟩
    have hao : (List.range 3).all (fun t => decide (Cond.arrayOver (.object (ipAC (t + 4))) ∈ lw_tbl)) = true := by decide +kernel
    have hw := of_decide_eq_true (List.all_eq_true.mp hao (t - 4) (List.mem_range.mpr (by omega)))
    rw [show t - 4 + 4 = t by omega] at hw
    exact va_AO.of (hts _ hw)
  have hMn : (ipY 152).name = "<init>" → meth.name = "<init>" := fun q => absurd q (by decide +kernel)
  have C : ipX p s m #[Value.ref b] meth c D aC s.heap.size b scr (b, L, xs) 152 := ⟨hx, hb, hml, hown, fun w hw => hts w (List.mem_filter.mp hw).1, hK, hMn, hbl, rfl⟩
  have hl := lv_entry ([.ref b]) (n := 4) (Nat.le_of_ble_eq_true rfl)
  rw [lg_entry_eq]
  generalize (lg_sl ([.ref b]) ++ List.replicate (4 - (lg_sl ([.ref b])).length) Slot.unset).toArray = ls at hl ⊢
  have hl2 : ipL ls 4 (ipIn 4 [.ref b]) := ipIn_ok (Nat.le_of_ble_eq_true rfl) hl
  have hR : room_1.cells = 600000 ∧ room_1.slots = 7302250 ∧ lawDepth + 1 ≤ room_1.frames ∧ 64 * (lawDepth + 1) ≤ room_1.locals := ⟨rfl, rfl, by decide, by decide⟩
  refine ip_sound (d := lawDepth) (Z := lw_Z below #[Value.ref b] s) (Q := lawQ) C hR (fun md2 vs2 h2 z2 mc ms P hm2 hc2 => ip_met l hbl rfl lawDepth md2 vs2 h2 z2 mc ms P hm2 hc2) ?_ ?_ ?_ (hgoal b L s.heap.size xs hL hbl) s.heap [] ls (Nat.zero_le _) (Nat.zero_le _) ⟨rfl, x1, Nat.le_refl _, fun a x q => by cases q⟩ hl2 (fun q hq => by cases hq)
  · intro pc lv st h2 z2 k n len a b2 v ty hat hr2 hn hq H locs ls2 k1 k2 hw2 hl3 hLo
    obtain ⟨hd, hlk, hlen⟩ := ipAt_all hat
    have e1 : len = 1 := hlen (Nat.succ_ne_zero _)
    subst e1
    cases hq
    refine va_forget hLo (W.widen k1 k2 ?_)
    exact lw_ret hx hb hr hlocks hd
  · intro pc lv st h2 z2 k n len a b2 hat hr2 hq
    cases hq
  · intro pc lv st h2 z2 k n len a b2 r o hat hr2 hq
    cases hq
