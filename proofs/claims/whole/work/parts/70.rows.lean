/-! the class's Namer: readWall, rowWalls -/
section NM
variable {sc : ipSc} {d z b pt q le pc nr wc : Nat} {h : HP} {P : PosT} {sg fr wr so tu wk en : Nat → Int32} {tx : Nat → Int64} {hi lo : Int64}
theorem nmA.off {h2 : HP} (H : nmA h b pt sg fr wr tx so tu wk en nr wc hi lo) (he : ∀ x, b ≤ x → x < b + 9 → h2 x = h x) : nmA h2 b pt sg fr wr tx so tu wk en nr wc hi lo := by
  obtain ⟨g0, g1, g2, g3, g4, g5, g6, g7, g8⟩ := H
  exact ⟨by rw [he _ (by omega) (by omega)]; exact g0, by rw [he _ (by omega) (by omega)]; exact g1, by rw [he _ (by omega) (by omega)]; exact g2, by rw [he _ (by omega) (by omega)]; exact g3, by rw [he _ (by omega) (by omega)]; exact g4, by rw [he _ (by omega) (by omega)]; exact g5, by rw [he _ (by omega) (by omega)]; exact g6, by rw [he _ (by omega) (by omega)]; exact g7, by rw [he _ (by omega) (by omega)]; exact g8⟩
set_option maxHeartbeats 1000000 in
theorem t_readWall (H : nmA h b pt sg fr wr tx so tu wk en nr wc hi lo) (HQ : plIs h q le pc P) (hd : q + 5 ≤ b ∨ b + 9 ≤ q) (hok : posOK P) {w way : Nat} {x : List Nat} (hw : (pW P)[w]? = some x) (hx : x ≠ []) (hway : way = 0 ∨ way = 31) : ipC sc (d + 2) 23 [.ref b, .ref q, .int (nI w), .int (nI way)] h z 0 0 (nmQ h b z (fun h2 => ∃ tx2 so2 s, nmA h2 b pt sg fr wr tx2 so2 tu wk en nr wc hi lo ∧ s < x.length ∧ so2 (way + w) = nI s ∧ ∀ k, k ≠ way + w → so2 k = so k)) := by
  obtain ⟨g0, g1, g2, g3, g4, g5, g6, g7, g8⟩ := id H
  obtain ⟨-, sa, wf, ff, lf, hps, r1, r2, r3, r4, k1, k2, k3, k4⟩ := id HQ
  rw [bW_c] at k2 r3
  rw [bC_c] at k1 r2
  simp only at k4
  obtain ⟨p1, p2, p3, p4, p5⟩ := hps
  have hW : P.2.flatten = pW P := rfl
  have hC : P.2.flatten.flatten = pC P := rfl
  rw [hW] at k2 r3
  rw [hC] at k1 r2
  have hwl := lt_some hw
  have hxl : lSt (pW P) w + x.length ≤ (pC P).length := by
    have e1 := lSt_s hw
    have e2 := lSt_le (l := pW P) (f := w + 1)
    have e3 : (pW P).flatten.length = (pC P).length := rfl
    omega
  have hx0 : 0 < x.length := List.length_pos_iff.mpr hx
  generalize hQ : nmQ h b z (fun h2 => ∃ tx2 so2 s, nmA h2 b pt sg fr wr tx2 so2 tu wk en nr wc hi lo ∧ s < x.length ∧ so2 (way + w) = nI s ∧ ∀ k, k ≠ way + w → so2 k = so k) = Q0
  refine ipC_mk [some (.ref b), some (.ref q), some (.int (nI w)), some (.int (nI way)), none, none, none, none, none, none, none, none, none, none, none] rfl (Nat.le_of_ble_eq_true rfl) ?_
  refine c23_0 p1 rfl p3 (by omega) (by decide) (r3 w (by omega)) (Nat.zero_le _) (Nat.zero_le _) (t_size HQ hw) (kI (c23_13 rfl ?_))
  -- the turns
  have turns : ∀ (m k s : Nat) (y6 y9 : Int64) (o1 o4 o8a o13 o14 : Option Value), k + m = x.length → s < x.length → ip sc (ipC sc (d + 1)) 23 0 0 Q0 96 [some (.ref b), o1, some (.int (nI w)), some (.int (nI way)), o4, some (.int (nI x.length)), some (.long y6), none, some (.int (nI (4 * (x.length - 1)))), some (.long y9), none, some (.int (nI s)), some (.int (nI k)), o13, o14] [] h z 0 0 := by
    intro m
    induction m with
    | zero =>
      intro k s y6 y9 o1 o4 o8a o13 o14 hk hs
      refine c23_96 (by omega) (by omega) (fun _ => ?_) (fun r => absurd (by omega) r)
      have done : ∀ (s2 : Nat), s2 < x.length → ∀ (o0 o1 o2 o3 o4 o5 o6 o7 o8 o9 o10 o11 o12 o13 o14 : Option Value), ip sc (ipC sc (d + 1)) 23 0 0 Q0 180 [o0, o1, o2, o3, o4, o5, o6, o7, o8, o9, o10, o11, o12, o13, o14] [.int (nI s2), .int (nI (way + w)), .ref (b + 5)] (hup h (b + 4) (.inl (1, 62, .inr (.inl (vp_updL tx (way + w) y9))))) z 0 0 := by
        intro s2 hs2 o0 o1 o2 o3 o4 o5 o6 o7 o8 o9 o10 o11 o12 o13 o14
        refine c23_180 (hup_ne (by omega) g5) (by omega) (by decide) rfl ?_
        rw [← hQ]
        refine ⟨rfl, rfl, (frm.rf.up (by omega)).up (by omega), vp_updL tx (way + w) y9, upd so (way + w) (nI s2), s2, ?_, hs2, pk_us, fun k hk => pk_un hk⟩
        exact ⟨hup_ne (by omega) (hup_ne (by omega) g0), hup_ne (by omega) (hup_ne (by omega) g1), hup_ne (by omega) (hup_ne (by omega) g2), hup_ne (by omega) (hup_ne (by omega) g3), hup_ne (by omega) hup_eq, hup_eq, hup_ne (by omega) (hup_ne (by omega) g6), hup_ne (by omega) (hup_ne (by omega) g7), hup_ne (by omega) (hup_ne (by omega) g8)⟩
      refine c23_147 g0 rfl g4 (by omega) (by decide) rfl (by omega) rfl (by omega) (fun r => c23_173 (by omega) (by omega) (done _ (by omega) _ _ _ _ _ _ _ _ _ _ _ _ _ _ _)) (fun r => c23_168 (done _ hs _ _ _ _ _ _ _ _ _ _ _ _ _ _ _))
    | succ m ih =>
      intro k s y6 y9 o1 o4 o8a o13 o14 hk hs
      refine c23_96 (by omega) (by omega) (fun r => absurd r (by omega)) (fun _ => ?_)
      exact c23_103 (fun _ => c23_141 (ih (k + 1) s _ _ _ _ none _ _ (by omega) hs)) (fun _ => c23_133 rfl (c23_141 (ih (k + 1) k _ _ _ _ none _ _ (by omega) (by omega))))
  -- the signs
  have signs : ∀ (m k : Nat) (y6 : Int64) (o9 o10 o11 o12 o13 o14 : Option Value), k + m = x.length → ip sc (ipC sc (d + 1)) 23 0 0 Q0 21 [some (.ref b), some (.ref q), some (.int (nI w)), some (.int (nI way)), some (.int (nI (lSt (pW P) w))), some (.int (nI x.length)), some (.long y6), none, some (.int (nI k)), o9, o10, o11, o12, o13, o14] [] h z 0 0 := by
    intro m
    induction m with
    | zero =>
      intro k y6 o9 o10 o11 o12 o13 o14 hk
      refine c23_21 (by omega) (by omega) (fun _ => ?_) (fun r => absurd (by omega) r)
      exact c23_78 (by omega) rfl rfl (turns (x.length - 1) 1 0 _ _ _ _ none _ _ (by omega) hx0)
    | succ m ih =>
      intro k y6 o9 o10 o11 o12 o13 o14 hk
      refine c23_21 (by omega) (by omega) (fun r => absurd r (by omega)) (fun _ => ?_)
      have corner : ∀ c, c < x.length → ip sc (ipC sc (d + 1)) 23 0 0 Q0 50 [some (.ref b), some (.ref q), some (.int (nI w)), some (.int (nI way)), some (.int (nI (lSt (pW P) w))), some (.int (nI x.length)), some (.long y6), none, some (.int (nI k)), o9, o10, o11, o12, o13, o14] [.int (nI (lSt (pW P) w + c))] h z 0 0 := fun c hc => by
        obtain ⟨a, ha⟩ := gt_some (l := x) (i := c) hc
        have hco : (pC P)[lSt (pW P) w + c]? = some a := lSt_at hw ha
        have hal := hok.1 a (List.mem_of_getElem? hco)
        obtain ⟨v, hv⟩ := nI_all (sg a)
        exact c23_50 g0 rfl p1 rfl p2 (by omega) (by decide) (rowL_at r2 hco) g1 (by omega) (by decide) hv rfl (ih (k + 1) _ _ _ _ _ _ _ (by omega))
      refine c23_28 (by omega) (fun r => ?_) (fun r => ?_)
      · refine c23_40 (by omega) (by omega) ?_
        have e : lSt (pW P) w + x.length - 1 - k = lSt (pW P) w + (x.length - 1 - k) := by omega
        rw [e]
        exact corner _ (by omega)
      · exact c23_32 (corner k (by omega))
  exact signs x.length 0 0 _ _ _ _ _ _ (by omega)
/-- the walls of a field stand in a row, each with a corner to begin with -/
def rwOK (P : PosT) (f way : Nat) (wr so : Nat → Int32) : Prop := ∃ l : List Nat, l.Perm (List.range' (lSt P.2 f) (fl P f)) ∧ rowL wr (way + lSt P.2 f) l ∧ ∀ w, w ∈ l → ∃ s x, (pW P)[w]? = some x ∧ s < x.length ∧ so (way + w) = nI s
def inF (P : PosT) (f way k : Nat) : Prop := way + lSt P.2 f ≤ k ∧ k < way + lSt P.2 f + fl P f
set_option maxHeartbeats 1000000 in
theorem t_rowWalls (H : nmA h b pt sg fr wr tx so tu wk en nr wc hi lo) (HQ : plIs h q le pc P) (hd : q + 5 ≤ b ∨ b + 9 ≤ q) (hok : posOK P) (hne : ∀ x ∈ pW P, x ≠ []) {f way : Nat} (hf : f < P.2.length) (hway : way = 0 ∨ way = 31) : ipC sc (d + 3) 21 [.ref b, .ref q, .int (nI f), .int (nI way)] h z 0 0 (nmQ h b z (fun h2 => ∃ tx2 so2 wr2, nmA h2 b pt sg fr wr2 tx2 so2 tu wk en nr wc hi lo ∧ rwOK P f way wr2 so2 ∧ ∀ k, ¬ inF P f way k → wr2 k = wr k ∧ so2 k = so k)) := by
  obtain ⟨-, sa, wf, ff, lf, hps, r1, r2, r3, r4, k1, k2, k3, k4⟩ := id HQ
  rw [bW_c] at k2 r3
  simp only at k3 r4
  obtain ⟨p1, p2, p3, p4, p5⟩ := hps
  have hW : P.2.flatten = pW P := rfl
  rw [hW] at k2 r3
  have hls : lSt P.2 (f + 1) = lSt P.2 f + fl P f := lSt_s (gD (d := []) hf)
  have hle := lSt_le (l := P.2) (f := f + 1)
  rw [hW] at hle
  generalize hQ : nmQ h b z (fun h2 => ∃ tx2 so2 wr2, nmA h2 b pt sg fr wr2 tx2 so2 tu wk en nr wc hi lo ∧ rwOK P f way wr2 so2 ∧ ∀ k, ¬ inF P f way k → wr2 k = wr k ∧ so2 k = so k) = Q0
  have PP : ∀ h3, frm b 9 h h3 → plIs h3 q le pc P := fun h3 hf3 => HQ.off fun x y1 y2 => hf3 x (by omega)
  refine ipC_mk [some (.ref b), some (.ref q), some (.int (nI f)), some (.int (nI way)), none, none] rfl (Nat.le_of_ble_eq_true rfl) ?_
  refine c21_0 p1 rfl p4 (by omega) (by decide) (r4 f (by omega)) ?_
  have loop : ∀ (m c : Nat) (h3 : HP) (tx2 : Nat → Int64) (so2 wr2 : Nat → Int32) (l : List Nat) (o5 : Option Value), c + m = fl P f → frm b 9 h h3 → nmA h3 b pt sg fr wr2 tx2 so2 tu wk en nr wc hi lo → l.Perm (List.range' (lSt P.2 f) c) → rowL wr2 (way + lSt P.2 f) l → (∀ w, w ∈ l → ∃ s x, (pW P)[w]? = some x ∧ s < x.length ∧ so2 (way + w) = nI s) → (∀ k, ¬ inF P f way k → wr2 k = wr k ∧ so2 k = so k) → ip sc (ipC sc (d + 2)) 21 0 0 Q0 8 [some (.ref b), some (.ref q), some (.int (nI f)), some (.int (nI way)), some (.int (nI (lSt P.2 f + c))), o5] [] h3 z 0 0 := by
    intro m
    induction m with
    | zero =>
      intro c h3 tx2 so2 wr2 l o5 hc hf3 H3 hp hr hs hk
      have q1 : h3 q = _ := (hf3 q (by omega)).trans p1
      have q4 : h3 (q + 3) = _ := (hf3 (q + 3) (by omega)).trans p4
      refine c21_8 q1 rfl q4 (by omega) (by decide) (r4 (f + 1) (by omega)) (by omega) (by omega) (fun _ => c21_118 ?_) (fun r => absurd (by omega) r)
      rw [← hQ]
      have ec : c = fl P f := by omega
      subst ec
      exact ⟨rfl, rfl, hf3, tx2, so2, wr2, H3, ⟨l, hp, hr, hs⟩, hk⟩
    | succ m ih =>
      intro c h3 tx2 so2 wr2 l o5 hc hf3 H3 hp hr hs hk
      have q1 : h3 q = _ := (hf3 q (by omega)).trans p1
      have q4 : h3 (q + 3) = _ := (hf3 (q + 3) (by omega)).trans p4
      have hll : l.length = c := by rw [hp.length_eq, List.length_range']
      have hlm : ∀ w ∈ l, lSt P.2 f ≤ w ∧ w < lSt P.2 f + c := fun w hw => by
        have := hp.subset hw
        rw [List.mem_range'] at this
        obtain ⟨i, i1, i2⟩ := this
        omega
      obtain ⟨x, hx⟩ := gt_some (l := pW P) (i := lSt P.2 f + c) (by omega)
      refine c21_8 q1 rfl q4 (by omega) (by decide) (r4 (f + 1) (by omega)) (by omega) (by omega) (fun r => absurd r (by omega)) (fun _ => ?_)
      refine c21_21 H3.1 (Nat.zero_le _) (Nat.zero_le _) (t_readWall H3 (PP h3 hf3) hd hok hx (hne x (List.mem_of_getElem? hx)) hway) ?_
      rintro o h4 z4 ⟨rfl, rfl, hf4, tx4, so4, s4, H4, hs4, e4, hk4⟩
      have q1b : h4 q = _ := (hf4 q (by omega)).trans q1
      have q4b : h4 (q + 3) = _ := (hf4 (q + 3) (by omega)).trans q4
      -- its place in the row
      have place : ∀ (j : Nat) (h5 : HP) (wr5 : Nat → Int32), j ≤ c → frm b 9 h h5 → nmA h5 b pt sg fr wr5 tx4 so4 tu wk en nr wc hi lo → (∀ k v, k < j → l[k]? = some v → wr5 (way + lSt P.2 f + k) = nI v) → (∀ k v, j ≤ k → l[k]? = some v → wr5 (way + lSt P.2 f + k + 1) = nI v) → (∀ k, ¬ inF P f way k → wr5 k = wr k) → ip sc (ipC sc (d + 2)) 21 0 0 Q0 33 [some (.ref b), some (.ref q), some (.int (nI f)), some (.int (nI way)), some (.int (nI (lSt P.2 f + c))), some (.int (nI (lSt P.2 f + j)))] [] h5 z4 0 0 := by
        intro j
        induction j with
        | zero =>
          intro h5 wr5 hj hf5 H5 a1 a2 a3
          have q1c : h5 q = _ := (hf5 q (by omega)).trans p1
          have q4c : h5 (q + 3) = _ := (hf5 (q + 3) (by omega)).trans p4
          refine c21_33 q1c rfl q4c (by omega) (by decide) (r4 f (by omega)) (by omega) (by omega) (fun _ => ?_) (fun r => absurd (by omega) r)
          obtain ⟨g0, g1, g2, g3, g4, g5, g6, g7, g8⟩ := id H5
          refine c21_101 g0 rfl g3 (by omega) (by decide) rfl ?_
          refine ih (c + 1) _ tx4 so4 (upd wr5 (way + (lSt P.2 f + 0)) (nI (lSt P.2 f + c))) ((lSt P.2 f + c) :: l) _ (by omega) (hf5.up (by omega)) ⟨hup_ne (by omega) g0, hup_ne (by omega) g1, hup_ne (by omega) g2, hup_eq, hup_ne (by omega) g4, hup_ne (by omega) g5, hup_ne (by omega) g6, hup_ne (by omega) g7, hup_ne (by omega) g8⟩ ?_ ?_ ?_ ?_
          · rw [List.range'_concat, Nat.one_mul]
            exact (hp.cons _).trans (List.perm_append_comm (l₁ := [lSt P.2 f + c]))
          · intro i v hi
            cases i with
            | zero =>
              have : lSt P.2 f + c = v := Option.some.inj hi
              rw [← this, show way + lSt P.2 f + 0 = way + (lSt P.2 f + 0) by omega]
              exact pk_us
            | succ i =>
              rw [pk_un (by omega), ← Nat.add_assoc]
              exact a2 i v (Nat.zero_le _) hi
          · intro w hw
            rcases List.mem_cons.mp hw with rfl | hw
            · exact ⟨s4, x, hx, hs4, e4⟩
            · obtain ⟨s, y, y1, y2, y3⟩ := hs w hw
              have := hlm w hw
              exact ⟨s, y, y1, y2, by rw [hk4 _ (by omega)]; exact y3⟩
          · intro k hk2
            have hk3 : k ≠ way + (lSt P.2 f + 0) := fun q => hk2 (by unfold inF; omega)
            have hk5 : k ≠ way + (lSt P.2 f + c) := fun q => hk2 (by unfold inF; omega)
            exact ⟨by rw [pk_un hk3]; exact a3 k hk2, by rw [hk4 k hk5]; exact (hk k hk2).2⟩
        | succ j ihj =>
          intro h5 wr5 hj hf5 H5 a1 a2 a3
          have q1c : h5 q = _ := (hf5 q (by omega)).trans p1
          have q4c : h5 (q + 3) = _ := (hf5 (q + 3) (by omega)).trans p4
          obtain ⟨v, hv⟩ := gt_some (l := l) (i := j) (by omega)
          have hvl := hlm v (List.mem_of_getElem? hv)
          obtain ⟨g0, g1, g2, g3, g4, g5, g6, g7, g8⟩ := id H5
          have evj := a1 j v (by omega) hv
          have evj2 : wr5 (way + (lSt P.2 f + (j + 1)) - 1) = nI v := by rw [show way + (lSt P.2 f + (j + 1)) - 1 = way + lSt P.2 f + j by omega]; exact evj
          -- it stays here
          have stay : ip sc (ipC sc (d + 2)) 21 0 0 Q0 101 [some (.ref b), some (.ref q), some (.int (nI f)), some (.int (nI way)), some (.int (nI (lSt P.2 f + c))), some (.int (nI (lSt P.2 f + (j + 1))))] [] h5 z4 0 0 := by
            refine c21_101 g0 rfl g3 (by omega) (by decide) rfl ?_
            refine ih (c + 1) _ tx4 so4 (upd wr5 (way + (lSt P.2 f + (j + 1))) (nI (lSt P.2 f + c))) (l.take (j + 1) ++ (lSt P.2 f + c) :: l.drop (j + 1)) _ (by omega) (hf5.up (by omega)) ⟨hup_ne (by omega) g0, hup_ne (by omega) g1, hup_ne (by omega) g2, hup_eq, hup_ne (by omega) g4, hup_ne (by omega) g5, hup_ne (by omega) g6, hup_ne (by omega) g7, hup_ne (by omega) g8⟩ ?_ ?_ ?_ ?_
            · rw [List.range'_concat, Nat.one_mul]
              refine List.perm_middle.trans ?_
              rw [List.take_append_drop]
              exact (hp.cons _).trans (List.perm_append_comm (l₁ := [lSt P.2 f + c]))
            · have htl : (l.take (j + 1)).length = j + 1 := by rw [List.length_take]; omega
              intro i v hi
              by_cases e1 : i < j + 1
              · rw [List.getElem?_append_left (by omega), List.getElem?_take, if_pos e1] at hi
                rw [pk_un (by omega)]
                exact a1 i v e1 hi
              · rw [List.getElem?_append_right (by omega), htl] at hi
                by_cases e2 : i = j + 1
                · subst e2
                  rw [Nat.sub_self] at hi
                  have : lSt P.2 f + c = v := Option.some.inj hi
                  rw [← this, show way + lSt P.2 f + (j + 1) = way + (lSt P.2 f + (j + 1)) by omega]
                  exact pk_us
                · rw [show i - (j + 1) = (i - j - 2) + 1 by omega, List.getElem?_cons_succ, List.getElem?_drop, show j + 1 + (i - j - 2) = i - 1 by omega] at hi
                  rw [pk_un (by omega)]
                  have := a2 (i - 1) v (by omega) hi
                  rw [show way + lSt P.2 f + (i - 1) + 1 = way + lSt P.2 f + i by omega] at this
                  exact this
            · intro w hw
              have hw2 : w = lSt P.2 f + c ∨ w ∈ l := by
                rcases List.mem_append.mp hw with hw | hw
                · exact Or.inr (List.mem_of_mem_take hw)
                · rcases List.mem_cons.mp hw with hw | hw
                  · exact Or.inl hw
                  · exact Or.inr (List.mem_of_mem_drop hw)
              rcases hw2 with rfl | hw
              · exact ⟨s4, x, hx, hs4, e4⟩
              · obtain ⟨s, y, y1, y2, y3⟩ := hs w hw
                have := hlm w hw
                exact ⟨s, y, y1, y2, by rw [hk4 _ (by omega)]; exact y3⟩
            · intro k hk2
              have hk3 : k ≠ way + (lSt P.2 f + (j + 1)) := fun q => hk2 (by unfold inF; omega)
              have hk5 : k ≠ way + (lSt P.2 f + c) := fun q => hk2 (by unfold inF; omega)
              exact ⟨by rw [pk_un hk3]; exact a3 k hk2, by rw [hk4 k hk5]; exact (hk k hk2).2⟩
          refine c21_33 q1c rfl q4c (by omega) (by decide) (r4 f (by omega)) (by omega) (by omega) (fun r => absurd r (by omega)) (fun _ => ?_)
          refine c21_44 g0 rfl rfl (by omega) g3 (by omega) (by decide) evj2 g4 (by omega) (by decide) (by omega) (fun _ => stay) (fun _ => ?_)
          refine c21_75 g0 rfl (by omega) g3 (by omega) (by decide) evj2 (by omega) rfl (by omega) ?_
          refine ihj _ (upd wr5 (way + (lSt P.2 f + (j + 1))) (nI v)) (by omega) (hf5.up (by omega)) ⟨hup_ne (by omega) g0, hup_ne (by omega) g1, hup_ne (by omega) g2, hup_eq, hup_ne (by omega) g4, hup_ne (by omega) g5, hup_ne (by omega) g6, hup_ne (by omega) g7, hup_ne (by omega) g8⟩ (fun k v2 hk2 hv2 => ?_) (fun k v2 hk2 hv2 => ?_) (fun k hk2 => ?_)
          · rw [pk_un (by omega)]
            exact a1 k v2 (by omega) hv2
          · by_cases e : k = j
            · subst e
              rw [hv] at hv2
              have := Option.some.inj hv2
              rw [← this, show way + lSt P.2 f + k + 1 = way + (lSt P.2 f + (k + 1)) by omega]
              exact pk_us
            · rw [pk_un (by omega)]
              exact a2 k v2 (by omega) hv2
          · rw [pk_un (fun q => hk2 (by unfold inF; omega))]
            exact a3 k hk2
      refine c21_29 (place c h4 wr2 (Nat.le_refl _) (hf3.tr hf4) H4 (fun k v _ hv => hr k v hv) (fun k v hk2 hv => ?_) (fun k hk2 => (hk k hk2).1))
      have := lt_some hv
      omega
  have := loop (fl P f) 0 h tx so wr [] none (by omega) frm.rf H (List.Perm.refl _) rowL_nil (fun w hw => (by cases hw)) (fun k _ => ⟨rfl, rfl⟩)
  rw [Nat.add_zero] at this
  exact this
end NM
