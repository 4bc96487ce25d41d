/-! the class's Namer: compareRows, turnField, rowFields -/
def rwV (P : PosT) (f way : Nat) (wr : Nat → Int32) : Prop := ∀ k, k < fl P f → ∃ v, v < 31 ∧ wr (way + lSt P.2 f + k) = nI v
section NM
variable {sc : ipSc} {d z b pt q le pc nr wc : Nat} {h : HP} {P : PosT} {sg fr wr so tu wk en : Nat → Int32} {tx : Nat → Int64} {hi lo : Int64}
theorem rwOK.v {f way : Nat} (h : rwOK P f way wr so) (hW : (pW P).length ≤ 31) : rwV P f way wr := by
  obtain ⟨l, h1, h2, h3⟩ := h
  intro k hk
  have hl : l.length = fl P f := by rw [h1.length_eq, List.length_range']
  obtain ⟨v, hv⟩ := gt_some (l := l) (i := k) (by omega)
  obtain ⟨s, x, k1, -⟩ := h3 v (List.mem_of_getElem? hv)
  have := lt_some k1
  exact ⟨v, by omega, h2 k v hv⟩
set_option maxHeartbeats 1000000 in
theorem t_compareRows (H : nmA h b pt sg fr wr tx so tu wk en nr wc hi lo) (HQ : plIs h q le pc P) {f g way way2 : Nat} (hf : f < P.2.length) (hg : g < P.2.length) (ht : tu f = nI way) (hway : way = 0 ∨ way = 31) (hway2 : way2 = 0 ∨ way2 = 31) (v1 : rwV P f way wr) (v2 : rwV P g way2 wr) : ipC sc (d + 2) 22 [.ref b, .ref q, .int (nI f), .int (nI g), .int (nI way2)] h z 0 0 (fun o h2 z2 => h2 = h ∧ z2 = z ∧ ∃ x, o = some (.int x)) := by
  obtain ⟨g0, g1, g2, g3, g4, g5, g6, g7, g8⟩ := id H
  obtain ⟨-, sa, wf, ff, lf, hps, r1, r2, r3, r4, k1, k2, k3, k4⟩ := id HQ
  rw [bW_c] at k2
  simp only at k3 r4
  obtain ⟨p1, p2, p3, p4, p5⟩ := hps
  have hW : P.2.flatten = pW P := rfl
  have s1 : lSt P.2 (f + 1) = lSt P.2 f + fl P f := lSt_s (gD (d := []) hf)
  have s2 : lSt P.2 (g + 1) = lSt P.2 g + fl P g := lSt_s (gD (d := []) hg)
  have l1 := lSt_le (l := P.2) (f := f + 1)
  have l2 := lSt_le (l := P.2) (f := g + 1)
  refine ipC_mk [some (.ref b), some (.ref q), some (.int (nI f)), some (.int (nI g)), some (.int (nI way2)), none, none, none, none, none, none, none] rfl (Nat.le_of_ble_eq_true rfl) ?_
  refine c22_0 g0 rfl g6 (by omega) (by decide) ht p1 (Nat.zero_le _) (Nat.zero_le _) (t_wallsIn HQ hf) (kI ?_)
  refine c22_13 p1 (Nat.zero_le _) (Nat.zero_le _) (t_wallsIn HQ hg) (kI ?_)
  refine c22_22 (by omega) (by omega) (fun e => c22_34 ?_) (fun _ => c22_25 p1 (Nat.zero_le _) (Nat.zero_le _) (t_wallsIn HQ hg) (kI (b22_32 ⟨rfl, rfl, _, rfl⟩)))
  have loop : ∀ (m k : Nat) (o8 o9 o10 o11 : Option Value), k + m = fl P f → ip sc (ipC sc (d + 1)) 22 0 0 (fun o h2 z2 => h2 = h ∧ z2 = z ∧ ∃ x, o = some (.int x)) 37 [some (.ref b), some (.ref q), some (.int (nI f)), some (.int (nI g)), some (.int (nI way2)), some (.int (nI way)), some (.int (nI (fl P f))), some (.int (nI k)), o8, o9, o10, o11] [] h z 0 0 := by
    intro m
    induction m with
    | zero =>
      intro k o8 o9 o10 o11 hk
      exact c22_37 (by omega) (by omega) (fun _ => c22_126 ⟨rfl, rfl, _, rfl⟩) (fun r => absurd (by omega) r)
    | succ m ih =>
      intro k o8 o9 o10 o11 hk
      obtain ⟨a, a1, a2⟩ := v1 k (by omega)
      obtain ⟨c, c1, c2⟩ := v2 k (by omega)
      refine c22_37 (by omega) (by omega) (fun r => absurd r (by omega)) (fun _ => ?_)
      refine c22_44 g0 rfl rfl p1 rfl p4 (by omega) (by decide) (r4 f (by omega)) g3 (by omega) (by decide) a2 g4 (by omega) (by decide) (by omega) (r4 g (by omega)) (by omega) c2 (by omega) rfl (fun _ => c22_120 (ih (k + 1) _ _ _ _ (by omega))) (fun _ => ?_)
      exact c22_106 (fun _ => c22_118 (c22_119 ⟨rfl, rfl, _, rfl⟩)) (fun _ => c22_114 (b22_119 ⟨rfl, rfl, _, rfl⟩))
  exact loop (fl P f) 0 _ _ _ _ (by omega)
/-- both ways round, and one of them is taken -/
def trOK (P : PosT) (f : Nat) (wr so tu : Nat → Int32) : Prop := rwOK P f 0 wr so ∧ rwOK P f 31 wr so ∧ ∃ way, (way = 0 ∨ way = 31) ∧ tu f = nI way
theorem rwOK.keep {wr2 so2 : Nat → Int32} {f way : Nat} (h : rwOK P f way wr so) (hk : ∀ k, inF P f way k → wr2 k = wr k ∧ so2 k = so k) : rwOK P f way wr2 so2 := by
  obtain ⟨l, h1, h2, h3⟩ := h
  have hl : l.length = fl P f := by rw [h1.length_eq, List.length_range']
  refine ⟨l, h1, fun i v hi => ?_, fun w hw => ?_⟩
  · have := lt_some hi
    rw [(hk _ (by unfold inF; omega)).1]
    exact h2 i v hi
  · obtain ⟨s, x, k1, k2, k3⟩ := h3 w hw
    have := h1.subset hw
    rw [List.mem_range'] at this
    obtain ⟨i, i1, i2⟩ := this
    exact ⟨s, x, k1, k2, by rw [(hk _ (by unfold inF; omega)).2]; exact k3⟩
theorem inF_ne {f g way way2 k : Nat} (hf : f < P.2.length) (hg : g < P.2.length) (hW : (pW P).length ≤ 31) (hway : way = 0 ∨ way = 31) (hway2 : way2 = 0 ∨ way2 = 31) (hne : f ≠ g ∨ way ≠ way2) (h : inF P f way k) : ¬ inF P g way2 k := by
  intro h2
  unfold inF at h h2
  have s1 : lSt P.2 (f + 1) = lSt P.2 f + fl P f := lSt_s (gD (d := []) hf)
  have s2 : lSt P.2 (g + 1) = lSt P.2 g + fl P g := lSt_s (gD (d := []) hg)
  have l1 := lSt_le (l := P.2) (f := f + 1)
  have l2 := lSt_le (l := P.2) (f := g + 1)
  have hW2 : P.2.flatten.length = (pW P).length := rfl
  have mono : ∀ a b, a ≤ b → lSt P.2 a ≤ lSt P.2 b := fun a b hab => by
    unfold lSt
    have : (P.2.take b).flatten = (P.2.take a).flatten ++ ((P.2.take b).drop a).flatten := by
      rw [← List.flatten_append]
      congr 1
      have := List.take_append_drop a (P.2.take b)
      rw [List.take_take, Nat.min_eq_left hab] at this
      exact this.symm
    rw [this, List.length_append]
    omega
  rcases Nat.lt_trichotomy f g with q | q | q
  · have := mono (f + 1) g (by omega)
    omega
  · subst q
    omega
  · have := mono (g + 1) f (by omega)
    omega
theorem t_turnField (H : nmA h b pt sg fr wr tx so tu wk en nr wc hi lo) (HQ : plIs h q le pc P) (hd : q + 5 ≤ b ∨ b + 9 ≤ q) (hok : posOK P) (hne : ∀ x ∈ pW P, x ≠ []) (hW : (pW P).length ≤ 31) (hF : P.2.length ≤ 24) {f : Nat} (hf : f < P.2.length) : ipC sc (d + 4) 19 [.ref b, .ref q, .int (nI f)] h z 0 0 (nmQ h b z (fun h2 => ∃ tx2 so2 wr2 tu2, nmA h2 b pt sg fr wr2 tx2 so2 tu2 wk en nr wc hi lo ∧ trOK P f wr2 so2 tu2 ∧ ∀ g, g < P.2.length → g ≠ f → trOK P g wr so tu → trOK P g wr2 so2 tu2)) := by
  refine ipC_mk [some (.ref b), some (.ref q), some (.int (nI f))] rfl (Nat.le_of_ble_eq_true rfl) ?_
  refine c19_0 H.1 (Nat.zero_le _) (Nat.zero_le _) (t_rowWalls H HQ hd hok hne hf (Or.inl rfl)) ?_
  rintro o h3 z3 ⟨rfl, rfl, hf3, tx3, so3, wr3, H3, ok3, kp3⟩
  have HQ3 : plIs h3 q le pc P := HQ.off fun x y1 y2 => hf3 x (by omega)
  refine c19_7 H3.1 (Nat.zero_le _) (Nat.zero_le _) (t_rowWalls H3 HQ3 hd hok hne hf (Or.inr rfl)) ?_
  rintro o h4 z4 ⟨rfl, rfl, hf4, tx4, so4, wr4, H4, ok4, kp4⟩
  have HQ4 : plIs h4 q le pc P := HQ3.off fun x y1 y2 => hf4 x (by omega)
  have ok0 : rwOK P f 0 wr4 so4 := ok3.keep fun k hk => kp4 k (inF_ne hf hf hW (Or.inl rfl) (Or.inr rfl) (Or.inr (by omega)) hk)
  have oth : ∀ g, g < P.2.length → g ≠ f → ∀ way, (way = 0 ∨ way = 31) → rwOK P g way wr so → rwOK P g way wr4 so4 := fun g hg hgf way hway ok => ok.keep fun k hk => by
    have e1 := kp3 k (inF_ne hg hf hW hway (Or.inl rfl) (Or.inl hgf) hk)
    have e2 := kp4 k (inF_ne hg hf hW hway (Or.inr rfl) (Or.inl hgf) hk)
    exact ⟨e2.1.trans e1.1, e2.2.trans e1.2⟩
  obtain ⟨g0, g1, g2, g3, g4, g5, g6, g7, g8⟩ := id H4
  have H5 : ∀ way, nmA (hup h4 (b + 6) (.inl (0, 24, .inl (upd tu f (nI way))))) b pt sg fr wr4 tx4 so4 (upd tu f (nI way)) wk en nr wc hi lo := fun way => ⟨hup_ne (by omega) g0, hup_ne (by omega) g1, hup_ne (by omega) g2, hup_ne (by omega) g3, hup_ne (by omega) g4, hup_ne (by omega) g5, hup_eq, hup_ne (by omega) g7, hup_ne (by omega) g8⟩
  have fin : ∀ way, (way = 0 ∨ way = 31) → nmQ h b z4 (fun h2 => ∃ tx2 so2 wr2 tu2, nmA h2 b pt sg fr wr2 tx2 so2 tu2 wk en nr wc hi lo ∧ trOK P f wr2 so2 tu2 ∧ ∀ g, g < P.2.length → g ≠ f → trOK P g wr so tu → trOK P g wr2 so2 tu2) none (hup h4 (b + 6) (.inl (0, 24, .inl (upd tu f (nI way))))) z4 := fun way hway => by
    refine ⟨rfl, rfl, (hf3.tr hf4).up (by omega), tx4, so4, wr4, upd tu f (nI way), H5 way, ⟨ok0, ok4, way, hway, pk_us⟩, fun g hg hgf ok => ?_⟩
    obtain ⟨o1, o2, w2, o3, o4⟩ := ok
    exact ⟨oth g hg hgf 0 (Or.inl rfl) o1, oth g hg hgf 31 (Or.inr rfl) o2, w2, o3, by rw [pk_un hgf]; exact o4⟩
  have HQ5 : ∀ e, plIs (hup h4 (b + 6) e) q le pc P := fun e => HQ4.off fun x y1 y2 => hup_ne (by omega) rfl
  refine c19_15 g0 rfl g6 (by omega) (by decide) rfl (by omega) (Nat.zero_le _) (Nat.zero_le _) (t_compareRows (H5 0) (HQ5 _) hf hf pk_us (Or.inl rfl) (Or.inr rfl) (ok0.v hW) (ok4.v hW)) ?_
  rintro o h6 z6 ⟨rfl, rfl, x, rfl⟩
  refine b19_31 (fun _ => c19_42 (fin 0 (Or.inl rfl))) (fun _ => ?_)
  refine c19_34 (H5 0).1 rfl (H5 0).2.2.2.2.2.2.1 (by omega) (by decide) rfl (c19_42 ?_)
  rw [hup_hup]
  have := fin 31 (Or.inr rfl)
  have e : upd (upd tu f (nI 0)) f (nI 31) = upd tu f (nI 31) := by
    funext y
    by_cases q : y = f
    · rw [q, pk_us, pk_us]
    · rw [pk_un q, pk_un q, pk_un q]
  rw [e]
  exact this
set_option maxHeartbeats 1000000 in
theorem t_rowFields {l : List Nat} (H : nmA h b pt sg fr wr tx so tu wk en l.length wc hi lo) (hl : rowL fr 0 l) (hll : l.length ≤ 24) (hlm : ∀ f ∈ l, f < P.2.length ∧ trOK P f wr so tu) (HQ : plIs h q le pc P) (hd : q + 5 ≤ b ∨ b + 9 ≤ q) (hW : (pW P).length ≤ 31) (hF : P.2.length ≤ 24) : ipC sc (d + 3) 20 [.ref b, .ref q] h z 0 0 (nmQ h b z (fun h2 => ∃ fr2 l2, nmA h2 b pt sg fr2 wr tx so tu wk en l2.length wc hi lo ∧ rowL fr2 0 l2 ∧ l2.Perm l)) := by
  generalize hQ : nmQ h b z (fun h2 => ∃ fr2 l2, nmA h2 b pt sg fr2 wr tx so tu wk en l2.length wc hi lo ∧ rowL fr2 0 l2 ∧ l2.Perm l) = Q0
  refine ipC_mk [some (.ref b), some (.ref q), none, none, none] rfl (Nat.le_of_ble_eq_true rfl) (c20_0 ?_)
  have loop : ∀ (m r : Nat) (h3 : HP) (fr3 : Nat → Int32) (l3 : List Nat) (o3 o4 : Option Value), r + m = l.length + 1 → 1 ≤ r → frm b 9 h h3 → nmA h3 b pt sg fr3 wr tx so tu wk en l.length wc hi lo → rowL fr3 0 l3 → l3.Perm l → ip sc (ipC sc (d + 2)) 20 0 0 Q0 2 [some (.ref b), some (.ref q), some (.int (nI r)), o3, o4] [] h3 z 0 0 := by
    intro m
    induction m with
    | zero =>
      intro r h3 fr3 l3 o3 o4 hr h1 hf3 H3 hr3 hp
      refine c20_2 (v_fs1_9 := l.length) H3.1 rfl (by omega) (by omega) (fun _ => c20_85 ?_) (fun r => absurd (by omega) r)
      rw [← hQ]
      exact ⟨rfl, rfl, hf3, fr3, l3, by rw [hp.length_eq]; exact H3, hr3, hp⟩
    | succ m ih =>
      intro r h3 fr3 l3 o3 o4 hr h1 hf3 H3 hr3 hp
      have hpl := hp.length_eq
      refine c20_2 (v_fs1_9 := l.length) H3.1 rfl (by omega) (by omega) (fun _ => c20_85 ?_) (fun r2 => ?_)
      · rw [← hQ]
        exact ⟨rfl, rfl, hf3, fr3, l3, by rw [hp.length_eq]; exact H3, hr3, hp⟩
      · obtain ⟨f, hf⟩ := gt_some (l := l3) (i := r) (by omega)
        have hfm := hlm f (hp.subset (List.mem_of_getElem? hf))
        refine c20_10 H3.1 rfl H3.2.2.1 (by omega) (by decide) (rowL_at hr3 hf) ?_
        -- its place: behind it the row is shifted by one
        have place : ∀ (j : Nat) (h5 : HP) (fr5 : Nat → Int32), j ≤ r → frm b 9 h h5 → nmA h5 b pt sg fr5 wr tx so tu wk en l.length wc hi lo → (∀ k v, k < j → l3[k]? = some v → fr5 k = nI v) → (∀ k v, j ≤ k → k < r → l3[k]? = some v → fr5 (k + 1) = nI v) → (∀ k v, r < k → l3[k]? = some v → fr5 k = nI v) → ip sc (ipC sc (d + 2)) 20 0 0 Q0 20 [some (.ref b), some (.ref q), some (.int (nI r)), some (.int (nI f)), some (.int (nI j))] [] h5 z 0 0 := by
          intro j
          induction j with
          | zero =>
            intro h5 fr5 hj hf5 H5 a1 a2 a3
            refine c20_20 (by omega) (fun _ => ?_) (fun r => absurd (by omega) r)
            obtain ⟨g0, g1, g2, g3, g4, g5, g6, g7, g8⟩ := id H5
            refine c20_71 g0 rfl g2 (by omega) (by decide) rfl ?_
            refine ih (r + 1) _ (upd fr5 0 (nI f)) (f :: (l3.take r ++ l3.drop (r + 1))) _ _ (by omega) (by omega) (hf5.up (by omega)) ⟨hup_ne (by omega) g0, hup_ne (by omega) g1, hup_eq, hup_ne (by omega) g3, hup_ne (by omega) g4, hup_ne (by omega) g5, hup_ne (by omega) g6, hup_ne (by omega) g7, hup_ne (by omega) g8⟩ ?_ ?_
            · intro i v hi
              rw [Nat.zero_add]
              cases i with
              | zero =>
                have : f = v := Option.some.inj hi
                rw [← this]
                exact pk_us
              | succ i =>
                rw [List.getElem?_cons_succ] at hi
                rw [pk_un (by omega)]
                have htl : (l3.take r).length = r := by rw [List.length_take]; omega
                by_cases e : i < r
                · rw [List.getElem?_append_left (by omega), List.getElem?_take, if_pos e] at hi
                  exact a2 i v (Nat.zero_le _) e hi
                · rw [List.getElem?_append_right (by omega), htl, List.getElem?_drop, show r + 1 + (i - r) = i + 1 by omega] at hi
                  exact a3 (i + 1) v (by omega) hi
            · refine List.Perm.trans ?_ hp
              have e : l3 = l3.take r ++ f :: l3.drop (r + 1) := by rw [← drop_cons hf, List.take_append_drop]
              conv => rhs; rw [e]
              exact List.perm_middle.symm
          | succ j ihj =>
            intro h5 fr5 hj hf5 H5 a1 a2 a3
            obtain ⟨v, hv⟩ := gt_some (l := l3) (i := j) (by omega)
            have hvm := hlm v (hp.subset (List.mem_of_getElem? hv))
            obtain ⟨g0, g1, g2, g3, g4, g5, g6, g7, g8⟩ := id H5
            obtain ⟨w1, w1a, w1b⟩ := hvm.2.2.2
            obtain ⟨w2, w2a, w2b⟩ := hfm.2.2.2
            have hv1 : rwV P v w1 wr := by
              rcases w1a with rfl | rfl
              · exact hvm.2.1.v hW
              · exact hvm.2.2.1.v hW
            have hv2 : rwV P f w2 wr := by
              rcases w2a with rfl | rfl
              · exact hfm.2.1.v hW
              · exact hfm.2.2.1.v hW
            have HQ5 : plIs h5 q le pc P := HQ.off fun x y1 y2 => hf5 x (by omega)
            have ej : j + 1 - 1 = j := by omega
            have evj := a1 j v (by omega) hv
            refine c20_20 (by omega) (fun r => absurd r (by omega)) (fun _ => ?_)
            refine c20_25 g0 rfl (by omega) g2 (by omega) (by decide) (by rw [ej]; exact evj) rfl g6 (by omega) (by decide) w2b (Nat.zero_le _) (Nat.zero_le _) (t_compareRows H5 HQ5 hvm.1 hfm.1 w1b w1a w2a hv1 hv2) ?_
            rintro o h6 z6 ⟨rfl, rfl, x, rfl⟩
            refine b20_46 (fun _ => ?_) (fun _ => ?_)
            · refine c20_71 g0 rfl g2 (by omega) (by decide) rfl ?_
              refine ih (r + 1) _ (upd fr5 (j + 1) (nI f)) (l3.take (j + 1) ++ f :: ((l3.take r).drop (j + 1) ++ l3.drop (r + 1))) _ _ (by omega) (by omega) (hf5.up (by omega)) ⟨hup_ne (by omega) g0, hup_ne (by omega) g1, hup_eq, hup_ne (by omega) g3, hup_ne (by omega) g4, hup_ne (by omega) g5, hup_ne (by omega) g6, hup_ne (by omega) g7, hup_ne (by omega) g8⟩ ?_ ?_
              · intro i v hi
                rw [Nat.zero_add]
                have htl : (l3.take (j + 1)).length = j + 1 := by rw [List.length_take]; omega
                have htl2 : ((l3.take r).drop (j + 1)).length = r - (j + 1) := by rw [List.length_drop, List.length_take]; omega
                by_cases e1 : i < j + 1
                · rw [List.getElem?_append_left (by omega), List.getElem?_take, if_pos e1] at hi
                  rw [pk_un (by omega)]
                  exact a1 i v e1 hi
                · rw [List.getElem?_append_right (by omega), htl] at hi
                  by_cases e2 : i = j + 1
                  · subst e2
                    rw [Nat.sub_self] at hi
                    have : f = v := Option.some.inj hi
                    rw [← this]
                    exact pk_us
                  · rw [show i - (j + 1) = (i - j - 2) + 1 by omega, List.getElem?_cons_succ] at hi
                    rw [pk_un (by omega)]
                    by_cases e3 : i - j - 2 < r - (j + 1)
                    · rw [List.getElem?_append_left (by omega), List.getElem?_drop, List.getElem?_take, if_pos (by omega), show j + 1 + (i - j - 2) = i - 1 by omega] at hi
                      have := a2 (i - 1) v (by omega) (by omega) hi
                      rw [show i - 1 + 1 = i by omega] at this
                      exact this
                    · rw [List.getElem?_append_right (by omega), htl2, List.getElem?_drop, show r + 1 + (i - j - 2 - (r - (j + 1))) = i by omega] at hi
                      exact a3 i v (by omega) hi
              · refine List.Perm.trans ?_ hp
                have e : l3 = l3.take r ++ f :: l3.drop (r + 1) := by rw [← drop_cons hf, List.take_append_drop]
                have e2 : l3.take r = l3.take (j + 1) ++ (l3.take r).drop (j + 1) := by
                  have := List.take_append_drop (j + 1) (l3.take r)
                  rw [List.take_take, Nat.min_eq_left (by omega)] at this
                  exact this.symm
                refine List.perm_middle.trans ?_
                rw [← List.append_assoc, ← e2]
                conv => rhs; rw [e]
                exact List.perm_middle.symm
            · refine c20_49 g0 rfl (by omega) g2 (by omega) (by decide) (by rw [ej]; exact evj) (by omega) rfl ?_
              refine ihj _ (upd fr5 (j + 1) (nI v)) (by omega) (hf5.up (by omega)) ⟨hup_ne (by omega) g0, hup_ne (by omega) g1, hup_eq, hup_ne (by omega) g3, hup_ne (by omega) g4, hup_ne (by omega) g5, hup_ne (by omega) g6, hup_ne (by omega) g7, hup_ne (by omega) g8⟩ (fun k v2 hk2 hv2 => ?_) (fun k v2 hk2 hk3 hv2 => ?_) (fun k v2 hk2 hv2 => ?_)
              · rw [pk_un (by omega)]
                exact a1 k v2 (by omega) hv2
              · by_cases e : k = j
                · subst e
                  rw [hv] at hv2
                  rw [← Option.some.inj hv2]
                  exact pk_us
                · rw [pk_un (by omega)]
                  exact a2 k v2 (by omega) hk3 hv2
              · rw [pk_un (by omega)]
                exact a3 k v2 hk2 hv2
        exact place r h3 fr3 (Nat.le_refl _) hf3 H3 (fun k v _ hv => rowL_at hr3 hv) (fun k v k1 k2 => absurd k2 (by omega)) (fun k v _ hv => rowL_at hr3 hv)
  exact loop l.length 1 h fr l _ _ (by omega) (by omega) frm.rf H hl (List.Perm.refl _)
end NM
