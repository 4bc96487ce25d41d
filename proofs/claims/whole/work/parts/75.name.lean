/-! the class's Namer: encode, name -/
def kcL (σ : Nat → Nat) (T E : List Nat) : List Nat := List.zipWith (fun a e => 4 * σ a + e) T E
theorem kcL_at {σ : Nat → Nat} {T E : List Nat} {k a e : Nat} (h1 : T[k]? = some a) (h2 : E[k]? = some e) : (kcL σ T E)[k]? = some (4 * σ a + e) := by
  unfold kcL
  rw [List.getElem?_zipWith, h1, h2]
theorem ends_len : ∀ {V : List (List (List Nat))}, (∀ X ∈ V, ∀ x ∈ X, x ≠ []) → (ends V).length = V.flatten.flatten.length ∧ ∀ e ∈ ends V, e < 3
  | [], _ => ⟨rfl, fun e h => (by cases h)⟩
  | X :: V, h => by
    obtain ⟨h1, h2⟩ := ends_len (V := V) fun Y hY => h Y (List.mem_cons_of_mem _ hY)
    have hX : ∀ X : List (List Nat), (∀ x ∈ X, x ≠ []) → (eF X).length = X.flatten.length ∧ ∀ e ∈ eF X, e < 3 := by
      intro X
      induction X with
      | nil => exact fun _ => ⟨rfl, fun e h => (by cases h)⟩
      | cons x X ih =>
        intro hx
        have hxl : 0 < x.length := List.length_pos_iff.mpr (hx x (List.mem_cons_self ..))
        obtain ⟨i1, i2⟩ := ih fun y hy => hx y (List.mem_cons_of_mem _ hy)
        cases X with
        | nil =>
          show (List.replicate (x.length - 1) 0 ++ [2]).length = _ ∧ ∀ e ∈ List.replicate (x.length - 1) 0 ++ [2], e < 3
          constructor
          · simp; omega
          · intro e he
            rcases List.mem_append.mp he with he | he
            · rw [(List.mem_replicate.mp he).2]; decide
            · rw [List.mem_singleton.mp he]; decide
        | cons y X =>
          show ((List.replicate (x.length - 1) 0 ++ [1]) ++ eF (y :: X)).length = _ ∧ ∀ e ∈ (List.replicate (x.length - 1) 0 ++ [1]) ++ eF (y :: X), e < 3
          constructor
          · rw [List.length_append, i1, List.flatten_cons (l := x), List.length_append (as := x)]
            simp only [List.length_append, List.length_replicate, List.length_cons, List.length_nil]
            omega
          · intro e he
            rcases List.mem_append.mp he with he | he
            · rcases List.mem_append.mp he with he | he
              · rw [(List.mem_replicate.mp he).2]; decide
              · rw [List.mem_singleton.mp he]; decide
            · exact i2 e he
    obtain ⟨h3, h4⟩ := hX X (h X (List.mem_cons_self ..))
    unfold ends at h1 h2 ⊢
    rw [List.map_cons, List.flatten_cons, List.length_append, h1, h3, List.flatten_cons, List.flatten_append, List.length_append]
    refine ⟨rfl, fun e he => ?_⟩
    rcases List.mem_append.mp he with he | he
    · exact h4 e he
    · exact h2 e he
section NM
variable {sc : ipSc} {d z b pt q pc nr wc : Nat} {h : HP} {P : PosT} {sg fr wr so tu wk en : Nat → Int32} {tx : Nat → Int64} {hi lo : Int64}
set_option maxHeartbeats 1000000 in
theorem t_encode {T E : List Nat} {σ : Nat → Nat} (H : nmA h b pt sg fr wr tx so tu wk en nr T.length hi lo) (hT : rowL wk 0 T) (hE : rowL en 0 E) (hTE : T.length = E.length) (hTl : T.length ≤ 20) (hTm : ∀ a ∈ T, a < 31 ∧ sg a = nI (σ a) ∧ σ a < 16) (hEm : ∀ e ∈ E, e < 3) : ipC sc (d + 1) 26 [.ref b] h z 0 0 (nmQ h b z (fun h2 => nmA h2 b pt sg fr wr tx so tu wk en nr T.length (lN (ncd ((kcL σ T E).take 10))) (lN (ncd ((kcL σ T E).drop 10))))) := by
  have hcl : (kcL σ T E).length = T.length := by unfold kcL; rw [List.length_zipWith]; omega
  have hcc : ∀ c ∈ kcL σ T E, c < 64 := fun c hc => by
    obtain ⟨k, hk⟩ := List.getElem?_of_mem hc
    have hkl := lt_some hk
    obtain ⟨a, ha⟩ := gt_some (l := T) (i := k) (by omega)
    obtain ⟨e, he⟩ := gt_some (l := E) (i := k) (by omega)
    rw [kcL_at ha he] at hk
    have h1 := (hTm a (List.mem_of_getElem? ha)).2.2
    have h2 := hEm e (List.mem_of_getElem? he)
    have := Option.some.inj hk
    omega
  generalize hQ : nmQ h b z (fun h2 => nmA h2 b pt sg fr wr tx so tu wk en nr T.length (lN (ncd ((kcL σ T E).take 10))) (lN (ncd ((kcL σ T E).drop 10)))) = Q0
  refine ipC_mk [some (.ref b), none, none, none] rfl (Nat.le_of_ble_eq_true rfl) ?_
  have loop : ∀ (m k : Nat) (h3 : HP) (o2 o3 : Option Value), k + m = T.length → frm b 9 h h3 → nmA h3 b pt sg fr wr tx so tu wk en nr T.length (lN (ncd (((kcL σ T E).take k).take 10))) (lN (ncd (((kcL σ T E).take k).drop 10))) → ip sc (ipC sc d) 26 0 0 Q0 12 [some (.ref b), some (.int (nI k)), o2, o3] [] h3 z 0 0 := by
    intro m
    induction m with
    | zero =>
      intro k h3 o2 o3 hk hf3 H3
      refine c26_12 (v_fs1_10 := T.length) H3.1 rfl (by omega) (by omega) (fun _ => c26_90 ?_) (fun r => absurd (by omega) r)
      have et : (kcL σ T E).take k = kcL σ T E := List.take_of_length_le (by omega)
      rw [et] at H3
      rw [← hQ]
      exact ⟨rfl, rfl, hf3, H3⟩
    | succ m ih =>
      intro k h3 o2 o3 hk hf3 H3
      obtain ⟨a, ha⟩ := gt_some (l := T) (i := k) (by omega)
      obtain ⟨e, he⟩ := gt_some (l := E) (i := k) (by omega)
      have hc := kcL_at (σ := σ) ha he
      obtain ⟨q1, q2, q3⟩ := hTm a (List.mem_of_getElem? ha)
      have he3 := hEm e (List.mem_of_getElem? he)
      obtain ⟨g0, g1, g2, g3, g4, g5, g6, g7, g8⟩ := id H3
      have et : (kcL σ T E).take (k + 1) = (kcL σ T E).take k ++ [4 * σ a + e] := by rw [List.take_succ, hc]; rfl
      have htl : ((kcL σ T E).take k).length = k := by rw [List.length_take]; omega
      have hc64 : ∀ x ∈ (kcL σ T E).take k, x < 64 := fun x hx => hcc x (List.mem_of_mem_take hx)
      refine c26_12 (v_fs1_10 := T.length) H3.1 rfl (by omega) (by omega) (fun r => absurd r (by omega)) (fun _ => ?_)
      refine c26_20 g0 rfl rfl g7 (by omega) (by decide) (rowL_at hT ha) g1 (by omega) (by decide) q2 rfl g8 (by omega) (by decide) (rowL_at hE he) (by omega) (fun r => ?_) (fun r => ?_)
      · rw [l_code q3 (by omega)]
        refine c26_66 g0 rfl r rfl (c26_84 ?_)
        have hdl : (((kcL σ T E).take k).drop 10).length = k - 10 := by rw [List.length_drop, htl]
        have hlt := ncd_lt (l := ((kcL σ T E).take k).drop 10) fun c hc => hc64 c (List.mem_of_mem_drop hc)
        rw [hdl] at hlt
        rw [l_put (by omega) hlt (by omega)]
        have e1 : ((kcL σ T E).take (k + 1)).take 10 = ((kcL σ T E).take k).take 10 := by
          rw [et, List.take_append_of_le_length (by omega)]
        have e2 : ncd (((kcL σ T E).take (k + 1)).drop 10) = ncd (((kcL σ T E).take k).drop 10) + (4 * σ a + e) * 64 ^ (k - 10) := by
          rw [et, List.drop_append_of_le_length (by omega), ncd_s, hdl]
        refine ih (k + 1) _ _ _ (by omega) (hf3.up (by omega)) ?_
        rw [e1, e2]
        exact ⟨hup_eq, hup_ne (by omega) g1, hup_ne (by omega) g2, hup_ne (by omega) g3, hup_ne (by omega) g4, hup_ne (by omega) g5, hup_ne (by omega) g6, hup_ne (by omega) g7, hup_ne (by omega) g8⟩
      · rw [l_code q3 (by omega)]
        refine c26_48 g0 rfl rfl (c26_84 ?_)
        have e0 : ((kcL σ T E).take k).take 10 = (kcL σ T E).take k := List.take_of_length_le (by omega)
        have hlt := ncd_lt (l := (kcL σ T E).take k) hc64
        rw [htl] at hlt
        rw [e0, l_put (by omega) hlt (by omega)]
        have e1 : ncd (((kcL σ T E).take (k + 1)).take 10) = ncd ((kcL σ T E).take k) + (4 * σ a + e) * 64 ^ k := by
          rw [et, List.take_of_length_le (by rw [List.length_append, htl]; show k + 1 ≤ 10; omega), ncd_s, htl]
        have e2 : ((kcL σ T E).take (k + 1)).drop 10 = ((kcL σ T E).take k).drop 10 := by
          rw [List.drop_eq_nil_of_le (by rw [et, List.length_append, htl]; show k + 1 ≤ 10; omega), List.drop_eq_nil_of_le (by omega)]
        refine ih (k + 1) _ _ _ (by omega) (hf3.up (by omega)) ?_
        rw [e1, e2]
        exact ⟨hup_eq, hup_ne (by omega) g1, hup_ne (by omega) g2, hup_ne (by omega) g3, hup_ne (by omega) g4, hup_ne (by omega) g5, hup_ne (by omega) g6, hup_ne (by omega) g7, hup_ne (by omega) g8⟩
  obtain ⟨g0, g1, g2, g3, g4, g5, g6, g7, g8⟩ := id H
  refine c26_0 g0 rfl (loop T.length 0 _ _ _ (by omega) (frm.rf.up (by omega)) ?_)
  rw [List.take_zero]
  exact ⟨hup_eq, hup_ne (by omega) g1, hup_ne (by omega) g2, hup_ne (by omega) g3, hup_ne (by omega) g4, hup_ne (by omega) g5, hup_ne (by omega) g6, hup_ne (by omega) g7, hup_ne (by omega) g8⟩
/-- a part as it was walked -/
def wlk (P : PosT) (w : Nat) (V : List (List (List Nat))) : Prop := ∃ wr so tu l, l.Perm (flM w P.2.length) ∧ (∀ f ∈ l, f < P.2.length ∧ trOK P f wr so tu) ∧ V = vR P wr so tu l
/-- its key's codes -/
def kyC (L : List Nat) (tN : Nat → Nat) (V : List (List (List Nat))) : List Nat := kcL (sgn L tN V.flatten.flatten) V.flatten.flatten (ends V)
theorem wlk.perm {w : Nat} {V : List (List (List Nat))} (h : wlk P w V) (hW : (pW P).length ≤ 31) : V.flatten.flatten.Perm (sM P.2 (flM w P.2.length)).flatten.flatten := by
  obtain ⟨wr, so, tu, l, h1, h2, rfl⟩ := h
  exact (vR_perm h2 hW).trans (fl_perm (fl_perm (h1.map _)))
theorem sM_len {F : List (List (List Nat))} {l : List Nat} (h1 : l.Nodup) (h2 : ∀ f ∈ l, f < F.length) : (sM F l).flatten.flatten.length ≤ F.flatten.flatten.length ∧ ∀ a ∈ (sM F l).flatten.flatten, a ∈ F.flatten.flatten := by
  obtain ⟨R, hR⟩ := sM_sub h1 h2
  have hp := fl_perm (fl_perm hR)
  rw [List.flatten_append, List.flatten_append] at hp
  refine ⟨?_, fun a ha => hp.symm.subset (List.mem_append_left _ ha)⟩
  have := hp.length_eq
  rw [List.length_append] at this
  omega
theorem vF_ne {f : Nat} (hf : f < P.2.length) (ok : trOK P f wr so tu) (hW : (pW P).length ≤ 31) : ∀ x ∈ vF P wr so tu f, x ≠ [] := by
  obtain ⟨ok0, ok1, way, hway, htu⟩ := ok
  have ok : rwOK P f way wr so := by
    rcases hway with rfl | rfl
    · exact ok0
    · exact ok1
  obtain ⟨o1, o2, o3⟩ := ok.ls hW
  have huw : uI (tu f) = way := by rw [htu, uI_nI (by omega)]
  intro x hx
  unfold vF wV at hx
  rw [huw] at hx
  obtain ⟨w, hw, rfl⟩ := List.mem_map.mp hx
  obtain ⟨-, y, k1, k2, k3⟩ := o3 w hw
  have e : wx P w = y := getD_of k1
  intro q
  have := congrArg List.length q
  unfold rotW at this
  rw [List.length_map, List.length_range, e, List.length_nil] at this
  omega
set_option maxHeartbeats 2000000 in
theorem t_name {fl : Int32} {tm fi la lk : Nat → Int32} {tN : Nat → Nat} (H : nmA h b pt sg fr wr tx so tu wk en nr wc hi lo) (HT : ptA h pt fl tm fi la lk) (hdt : pt + 5 ≤ b ∨ b + 9 ≤ pt) (ht : ∀ a, a < P.1.length → tm a = nI (tN a) ∧ tN a < 200) (HQ : plIs h q 1 pc P) (hd : q + 5 ≤ b ∨ b + 9 ≤ q) (hv : vld P) (hle : lean P) (hC : (pC P).length ≤ 20) (hs : P.1.sum ≤ 11) {w : Nat} (hw : w < 2 ^ P.2.length) : ipC sc (d + 5) 15 [.ref b, .ref q, .int (nI w)] h z 0 0 (nmQ h b z (fun h2 => ∃ V sg fr wr tx so tu wk en nr wc, wlk P w V ∧ nmA h2 b pt sg fr wr tx so tu wk en nr wc (lN (ncd ((kyC P.1 tN V).take 10))) (lN (ncd ((kyC P.1 tN V).drop 10))))) := by
  have hok := hv.1
  obtain ⟨-, sa, wf, ff, lf, hps, r1, r2, r3, r4, k1, k2, k3, k4⟩ := id HQ
  rw [bW_c] at k2
  simp only at k3 k4
  have hW : (pW P).length ≤ 31 := k2
  have hne : ∀ x ∈ pW P, x ≠ [] := fun x hx => (hv.2.1 x hx).1
  have hneF : ∀ X ∈ P.2, X ≠ [] := fun X hX q => by
    have := hle.2 X hX
    rw [q] at this
    cases this
  have hp24 : 2 ^ P.2.length ≤ 2 ^ 24 := Nat.pow_le_pow_right (by decide) k3
  have hfm : ∀ f ∈ flM w P.2.length, f < P.2.length := fun f hf => (flM_mem.mp hf).1
  generalize hQ : nmQ h b z (fun h2 => ∃ V sg fr wr tx so tu wk en nr wc, wlk P w V ∧ nmA h2 b pt sg fr wr tx so tu wk en nr wc (lN (ncd ((kyC P.1 tN V).take 10))) (lN (ncd ((kyC P.1 tN V).drop 10)))) = Q0
  have PP : ∀ h3, frm b 9 h h3 → plIs h3 q 1 pc P := fun h3 hf3 => HQ.off fun x y1 y2 => hf3 x (by omega)
  refine ipC_mk [some (.ref b), some (.ref q), some (.int (nI w)), none, none, none] rfl (Nat.le_of_ble_eq_true rfl) ?_
  refine c15_0 H.1 (Nat.zero_le _) (Nat.zero_le _) (t_takeFields H HQ hd (by omega)) ?_
  rintro o h3 z3 ⟨rfl, rfl, hf3, fr3, H3, hr3⟩
  have HT3 : ptA h3 pt fl tm fi la lk := by
    obtain ⟨t0, t1, t2, t3, t4⟩ := HT
    exact ⟨by rw [hf3 _ (by omega)]; exact t0, by rw [hf3 _ (by omega)]; exact t1, by rw [hf3 _ (by omega)]; exact t2, by rw [hf3 _ (by omega)]; exact t3, by rw [hf3 _ (by omega)]; exact t4⟩
  refine c15_6 H3.1 (Nat.zero_le _) (Nat.zero_le _) (t_signByKind H3 HT3 hdt ht (PP h3 hf3) hok hd) ?_
  rintro o h4 z4 ⟨rfl, rfl, hf4, sg4, H4, hsg4⟩
  refine c15_11 rfl ?_
  -- one round
  have round : ∀ (r : Nat) (h5 : HP) (sg fr wr : Nat → Int32) (tx : Nat → Int64) (so tu wk en : Nat → Int32) (wc : Nat) (hi lo : Int64) (l : List Nat) (o3 : Option Value), r < 2 → frm b 9 h h5 → nmA h5 b pt sg fr wr tx so tu wk en l.length wc hi lo → rowL fr 0 l → l.Perm (flM w P.2.length) → sgOK P.1 tN sg → (∀ (h6 : HP) (sg fr wr : Nat → Int32) (tx : Nat → Int64) (so tu wk en : Nat → Int32) (hi lo : Int64) (l2 : List Nat) (u : Nat), frm b 9 h h6 → u ≤ 1 → l2.Perm (flM w P.2.length) → (∀ f ∈ l2, f < P.2.length ∧ trOK P f wr so tu) → nmA h6 b pt sg fr wr tx so tu wk en l2.length (vR P wr so tu l2).flatten.flatten.length hi lo → rowL fr 0 l2 → rowL wk 0 (vR P wr so tu l2).flatten.flatten → rowL en 0 (ends (vR P wr so tu l2)) → sgOK P.1 tN sg → (∀ a ∈ (vR P wr so tu l2).flatten.flatten, sg a = nI (sgn P.1 tN (vR P wr so tu l2).flatten.flatten a)) → ∀ o5, ip sc (ipC sc (d + 4)) 15 0 0 Q0 16 [some (.ref b), some (.ref q), some (.int (nI w)), some (.int (nI u)), some (.int (nI (r + 1))), o5] [] h6 z4 0 0) → ∀ o5, ip sc (ipC sc (d + 4)) 15 0 0 Q0 26 [some (.ref b), some (.ref q), some (.int (nI w)), o3, some (.int (nI r)), o5] [] h5 z4 0 0 := by
    intro r h5 sg fr wr tx so tu wk en wc hi lo l o3 hr hf5 H5 hrf hpl hsg K o5
    have hll : l.length ≤ 24 := by rw [hpl.length_eq]; exact Nat.le_trans flM_len k3
    have hlm : ∀ f ∈ l, f < P.2.length := fun f hf => hfm f (hpl.subset hf)
    have hnd : l.Nodup := hpl.nodup_iff.mpr flM_nodup
    refine c15_26 ?_
    -- the fields are turned
    have turns : ∀ (m j : Nat) (h6 : HP) (wr : Nat → Int32) (tx : Nat → Int64) (so tu : Nat → Int32), j + m = l.length → frm b 9 h h6 → nmA h6 b pt sg fr wr tx so tu wk en l.length wc hi lo → (∀ f ∈ l.take j, trOK P f wr so tu) → ip sc (ipC sc (d + 4)) 15 0 0 Q0 29 [some (.ref b), some (.ref q), some (.int (nI w)), o3, some (.int (nI r)), some (.int (nI j))] [] h6 z4 0 0 := by
      intro m
      induction m with
      | zero =>
        intro j h6 wr tx so tu hj hf6 H6 hok6
        have et : l.take j = l := List.take_of_length_le (by omega)
        rw [et] at hok6
        refine c15_29 (v_fs1_9 := l.length) H6.1 rfl (by omega) (by omega) (fun _ => ?_) (fun r => absurd (by omega) r)
        refine c15_56 H6.1 (Nat.zero_le _) (Nat.zero_le _) (t_rowFields (d := d + 1) H6 hrf hll (fun f hf => ⟨hlm f hf, hok6 f hf⟩) (PP h6 hf6) hd hW k3) ?_
        rintro o h7 z7 ⟨rfl, rfl, hf7, fr7, l7, H7, hr7, hp7⟩
        have hp7b := hp7.trans hpl
        have hll7 : l7.length ≤ 24 := by rw [hp7.length_eq]; exact hll
        have hlm7 : ∀ f ∈ l7, f < P.2.length ∧ trOK P f wr so tu := fun f hf => ⟨hlm f (hp7.subset hf), hok6 f (hp7.subset hf)⟩
        have hvp := vR_perm hlm7 hW
        have hsl := sM_len (F := P.2) (hp7b.nodup_iff.mpr flM_nodup) (fun f hf => (hlm7 f hf).1)
        have hTl : (vR P wr so tu l7).flatten.flatten.length ≤ 20 := by
          rw [hvp.length_eq]
          have : P.2.flatten.flatten.length = (pC P).length := rfl
          omega
        have hTm : ∀ a ∈ (vR P wr so tu l7).flatten.flatten, a ∈ pC P := fun a ha => hsl.2 a (hvp.subset ha)
        refine c15_61 H7.1 (Nat.zero_le _) (Nat.zero_le _) (t_walk (d := d + 1) H7 hr7 hll7 hlm7 (PP h7 (hf6.tr hf7)) hd hW k3 hneF (by omega)) ?_
        rintro o h8 z8 ⟨rfl, rfl, hf8, wk8, en8, H8, hA8, hE8⟩
        have hD : (ddF ((vR P wr so tu l7).flatten.flatten.filter (ltF P.1 tN))).length ≤ 11 := by
          have hm : ∀ x ∈ ddF ((vR P wr so tu l7).flatten.flatten.filter (ltF P.1 tN)), x ∈ pC P := fun x hx => hTm x (List.mem_filter.mp (ddF_mem.mp hx)).1
          have h1 := sum_dist (L := P.1) ddF_nodup (fun s hs => hok.1 s (hm s hs))
          have h2 := sum_ge (l := (ddF ((vR P wr so tu l7).flatten.flatten.filter (ltF P.1 tN))).map (fun s => P.1.getD s 0)) (fun v hv => by
            obtain ⟨s, hs, rfl⟩ := List.mem_map.mp hv
            have := hle.1 s (hm s hs)
            omega)
          rw [List.length_map] at h2
          omega
        refine c15_66 H8.1 (Nat.zero_le _) (Nat.zero_le _) (t_sight (d := d + 3) (L := P.1) (tN := tN) H8 hA8 (by omega) (fun a ha => hok.1 a (hTm a ha)) k4 hsg hD) ?_
        rintro o h9 z9 ⟨rfl, ho, hf9, sg9, H9, hsg9, hS9⟩
        rcases ho with rfl | rfl
        · exact c15_70 rfl (K h9 sg9 fr7 wr tx so tu wk8 en8 hi lo l7 0 (((hf6.tr hf7).tr hf8).tr hf9) (by omega) hp7b hlm7 H9 hr7 hA8 hE8 hsg9 hS9 _)
        · exact c15_70 rfl (K h9 sg9 fr7 wr tx so tu wk8 en8 hi lo l7 1 (((hf6.tr hf7).tr hf8).tr hf9) (by omega) hp7b hlm7 H9 hr7 hA8 hE8 hsg9 hS9 _)
      | succ m ih =>
        intro j h6 wr tx so tu hj hf6 H6 hok6
        obtain ⟨f, hf⟩ := gt_some (l := l) (i := j) (by omega)
        have hfl := hlm f (List.mem_of_getElem? hf)
        refine c15_29 (v_fs1_9 := l.length) H6.1 rfl (by omega) (by omega) (fun r => absurd r (by omega)) (fun _ => ?_)
        refine c15_38 H6.1 rfl H6.2.2.1 (by omega) (by decide) (rowL_at hrf hf) (Nat.zero_le _) (Nat.zero_le _) (t_turnField H6 (PP h6 hf6) hd hok hne hW k3 hfl) ?_
        rintro o h7 z7 ⟨rfl, rfl, hf7, tx7, so7, wr7, tu7, H7, ok7, kp7⟩
        refine c15_50 (ih (j + 1) h7 wr7 tx7 so7 tu7 (by omega) (hf6.tr hf7) H7 fun g hg => ?_)
        have et : l.take (j + 1) = l.take j ++ [f] := by rw [List.take_succ, hf]; rfl
        rw [et] at hg
        by_cases e : g = f
        · rw [e]; exact ok7
        · rcases List.mem_append.mp hg with hg | hg
          · exact kp7 g (hlm g (List.mem_of_mem_take hg)) e (hok6 g hg)
          · exact absurd (List.mem_singleton.mp hg) e
    exact turns l.length 0 h5 wr tx so tu (by omega) hf5 H5 fun f hf => (by cases hf)
  -- the end
  have fin : ∀ (h6 : HP) (sg fr wr : Nat → Int32) (tx : Nat → Int64) (so tu wk en : Nat → Int32) (hi lo : Int64) (l2 : List Nat), frm b 9 h h6 → l2.Perm (flM w P.2.length) → (∀ f ∈ l2, f < P.2.length ∧ trOK P f wr so tu) → nmA h6 b pt sg fr wr tx so tu wk en l2.length (vR P wr so tu l2).flatten.flatten.length hi lo → rowL wk 0 (vR P wr so tu l2).flatten.flatten → rowL en 0 (ends (vR P wr so tu l2)) → (∀ a ∈ (vR P wr so tu l2).flatten.flatten, sg a = nI (sgn P.1 tN (vR P wr so tu l2).flatten.flatten a)) → sgOK P.1 tN sg → ∀ o1 o2 o3 o4 o5, ip sc (ipC sc (d + 4)) 15 0 0 Q0 77 [some (.ref b), o1, o2, o3, o4, o5] [] h6 z4 0 0 := by
    intro h6 sg fr wr tx so tu wk en hi lo l2 hf6 hp2 hlm2 H6 hA6 hE6 hS6 hsg6 o1 o2 o3 o4 o5
    have hvp := vR_perm hlm2 hW
    have hsl := sM_len (F := P.2) (hp2.nodup_iff.mpr flM_nodup) (fun f hf => (hlm2 f hf).1)
    have hTl : (vR P wr so tu l2).flatten.flatten.length ≤ 20 := by
      rw [hvp.length_eq]
      have : P.2.flatten.flatten.length = (pC P).length := rfl
      omega
    have hTm : ∀ a ∈ (vR P wr so tu l2).flatten.flatten, a ∈ pC P := fun a ha => hsl.2 a (hvp.subset ha)
    obtain ⟨el, em⟩ := ends_len (V := vR P wr so tu l2) (fun X hX => by
      obtain ⟨f, hf, rfl⟩ := List.mem_map.mp hX
      exact vF_ne (hlm2 f hf).1 (hlm2 f hf).2 hW)
    refine c15_77 H6.1 (Nat.zero_le _) (Nat.zero_le _) (t_encode (d := d + 3) (σ := sgn P.1 tN (vR P wr so tu l2).flatten.flatten) H6 hA6 hE6 el.symm hTl (fun a ha => ?_) em) ?_
    · have hal := hok.1 a (hTm a ha)
      refine ⟨by omega, hS6 a ha, ?_⟩
      obtain ⟨s, s1, s2, -⟩ := hsg6 a hal
      have e := hS6 a ha
      rw [s1] at e
      have hsgl : sgn P.1 tN (vR P wr so tu l2).flatten.flatten a < 200 := by
        unfold sgn
        have h1 := kdN_le (l := P.1.getD a 0) (t := tN a)
        split
        · have h2 : (ddF ((vR P wr so tu l2).flatten.flatten.filter (ltF P.1 tN))).idxOf a ≤ (ddF ((vR P wr so tu l2).flatten.flatten.filter (ltF P.1 tN))).length := List.idxOf_le_length
          have h3 : (ddF ((vR P wr so tu l2).flatten.flatten.filter (ltF P.1 tN))).length ≤ P.1.length := nodup_len ddF_nodup fun s hs => hok.1 s (hTm s (List.mem_filter.mp (ddF_mem.mp hs)).1)
          omega
        · omega
      have := (nI_eq (by omega) (by omega)).mp e
      omega
    · rintro o h7 z7 ⟨rfl, rfl, hf7, H7⟩
      refine c15_81 ?_
      rw [← hQ]
      exact ⟨rfl, rfl, hf6.tr hf7, vR P wr so tu l2, sg, fr, wr, tx, so, tu, wk, en, l2.length, _, ⟨wr, so, tu, l2, hp2, hlm2, rfl⟩, H7⟩
  refine c15_16 (by omega) (fun r => absurd r (by omega)) (fun _ => c15_22 (by omega) (fun r => absurd r (by omega)) (fun _ => ?_))
  refine round 0 h4 sg4 fr3 wr tx so tu wk en wc hi lo (flM w P.2.length) _ (by omega) (hf3.tr hf4) H4 hr3 (List.Perm.refl _) hsg4 (fun h6 sg6 fr6 wr6 tx6 so6 tu6 wk6 en6 hi6 lo6 l6 u hf6 hu hp6 hlm6 H6 hr6 hA6 hE6 hsg6 hS6 o5 => ?_) _
  refine c15_16 (by omega) (fun r => absurd r (by omega)) (fun _ => c15_22 (by omega) (fun r => fin h6 sg6 fr6 wr6 tx6 so6 tu6 wk6 en6 hi6 lo6 l6 hf6 hp6 hlm6 H6 hA6 hE6 hS6 hsg6 _ _ _ _ _) (fun _ => ?_))
  refine round 1 h6 sg6 fr6 wr6 tx6 so6 tu6 wk6 en6 _ hi6 lo6 l6 _ (by omega) hf6 H6 hr6 hp6 hsg6 (fun h7 sg7 fr7 wr7 tx7 so7 tu7 wk7 en7 hi7 lo7 l7 u hf7 hu hp7 hlm7 H7 hr7 hA7 hE7 hsg7 hS7 o5 => ?_) _
  exact c15_16 (by omega) (fun _ => fin h7 sg7 fr7 wr7 tx7 so7 tu7 wk7 en7 hi7 lo7 l7 hf7 hp7 hlm7 H7 hA7 hE7 hS7 hsg7 _ _ _ _ _) (fun r => absurd (by omega) r)
end NM
