/-! the class's Position: become, copy -/
theorem lnW_len {le : Nat} {lv : List Nat} : ∀ {Fd X : List (List Nat)}, (lnW le lv X Fd).length ≤ X.length + Fd.length ∧ (lnW le lv X Fd).flatten.length ≤ X.flatten.length + Fd.flatten.length
  | [], X => ⟨Nat.le_refl _, Nat.le_refl _⟩
  | x :: Fd, X => by
    have e : lnW le lv X (x :: Fd) = lnW le lv (clW le X (putL le lv [] x)) Fd := rfl
    have h1 := lnW_len (le := le) (lv := lv) (Fd := Fd) (X := clW le X (putL le lv [] x))
    have h2 := clW_len (le := le) (X := X) (C := putL le lv [] x)
    have h3 := putL_len (le := le) (lv := lv) (l := x) (C := [])
    rw [List.length_nil] at h3
    rw [e, List.length_cons, List.flatten_cons, List.length_append]
    omega
theorem clF_len {le : Nat} {lv : List Nat} {F : List (List (List Nat))} {X : List (List Nat)} : (clF le lv F X).length ≤ F.length + 1 ∧ (clF le lv F X).flatten.length ≤ F.flatten.length + X.length ∧ (clF le lv F X).flatten.flatten.length ≤ F.flatten.flatten.length + X.flatten.length := by
  unfold clF
  split
  · omega
  · simp only [List.length_append, List.length_cons, List.length_nil, List.flatten_append, List.flatten_cons, List.flatten_nil, List.append_nil]
    omega
theorem lnP_len {le : Nat} {lv : List Nat} : ∀ {L F : List (List (List Nat))}, (lnP le lv F L).length ≤ F.length + L.length ∧ (lnP le lv F L).flatten.length ≤ F.flatten.length + L.flatten.length ∧ (lnP le lv F L).flatten.flatten.length ≤ F.flatten.flatten.length + L.flatten.flatten.length
  | [], F => ⟨Nat.le_refl _, Nat.le_refl _, Nat.le_refl _⟩
  | x :: L, F => by
    have e : lnP le lv F (x :: L) = lnP le lv (clF le lv F (lnW le lv [] x)) L := rfl
    have h1 := lnP_len (le := le) (lv := lv) (L := L) (F := clF le lv F (lnW le lv [] x))
    have h2 := clF_len (le := le) (lv := lv) (F := F) (X := lnW le lv [] x)
    have h3 := lnW_len (le := le) (lv := lv) (Fd := x) (X := [])
    rw [List.length_nil, List.flatten_nil, List.length_nil] at h3
    rw [e]
    simp only [List.length_cons, List.flatten_cons, List.flatten_append, List.length_append]
    omega
theorem lnP_s {le : Nat} {lv : List Nat} {F L : List (List (List Nat))} {Y : List (List Nat)} : lnP le lv F (L ++ [Y]) = clF le lv (lnP le lv F L) (lnW le lv [] Y) := by
  unfold lnP
  rw [List.foldl_append]
  rfl
theorem lvA_set {lv : List Nat} {a b la lb : Nat} (ha : lv[a]? = some la) (hb : (lv.set a (la - 1))[b]? = some lb) : (lv.set a (la - 1)).set b (lb - 1) ++ [1] = lvA lv a b := by
  unfold lvA
  congr 1
  refine List.ext_getElem? fun s => ?_
  rw [List.getElem?_mapIdx]
  have hal := lt_some ha
  have hbl := lt_some hb
  rw [List.length_set] at hbl
  by_cases eb : b = s
  · subst eb
    rw [List.getElem?_set]
    rw [if_pos rfl, List.length_set, if_pos hbl]
    by_cases ea : a = b
    · subst ea
      rw [List.getElem?_set, if_pos rfl, if_pos hal] at hb
      have hb := Option.some.inj hb
      rw [ha]
      simp only [Option.map_some, if_pos]
      rw [← hb]
    · rw [List.getElem?_set_ne ea] at hb
      rw [hb]
      simp only [Option.map_some, if_pos]
      rw [if_neg (fun r => ea r.symm)]
      rfl
  · rw [List.getElem?_set_ne eb]
    by_cases ea : a = s
    · subst ea
      rw [List.getElem?_set, if_pos rfl, if_pos hal, ha]
      simp only [Option.map_some, if_pos]
      rw [if_neg (fun r => eb r.symm)]
      rfl
    · rw [List.getElem?_set_ne ea]
      cases hs : lv[s]? with
      | none => rfl
      | some l =>
        simp only [Option.map_some]
        rw [if_neg (fun r => ea r.symm), if_neg (fun r => eb r.symm)]
        rfl
/-- what a move is: its corners are there, told in order, they can be joined, the SIDE is one -/
def legal (P : PosT) (f u i v j side : Nat) : Prop := isTh P (f, u, i, v, j) = true ∧ u ≤ v ∧ (u = v → i ≤ j) ∧ canT P (f, u, i, v, j) = true ∧ side < sidesP P (f, u, i, v, j)
def capC (P : PosT) : Prop := P.1.length ≤ 31 ∧ P.2.length ≤ 24 ∧ (pW P).length ≤ 31 ∧ (pC P).length ≤ 100
theorem doMv_halves {P : PosT} {f u i j side : Nat} : (doMv P f u i u j side).2 = P.2.set f (half1 (P.2.getD f []) u i j P.1.length side) ++ [half2 P.1 (P.2.getD f []) u i j P.1.length side] := by
  unfold doMv
  rw [if_pos rfl]
theorem half1_L {lv : List Nat} {Fd : List (List Nat)} {u i j c side : Nat} : half1 Fd u i j c side = (halfL lv (Fd.getD u []) i j 0 ++ [c]) :: othA side 0 u Fd 0 0 := rfl
theorem half2_L {lv : List Nat} {Fd : List (List Nat)} {u i j c side : Nat} : half2 lv Fd u i j c side = (halfL lv (Fd.getD u []) i j 1 ++ [c]) :: othA side 1 u Fd 0 0 := rfl
section POS
variable {sc : ipSc} {d z b le pc q le2 pc2 m : Nat} {h : HP} {P : PosT} {B : PB}
set_option maxHeartbeats 1000000 in
theorem t_become (H : pbIs h b le pc B) (HQ : plIs h q le2 pc2 P) (hd : ap5 b q) {f u i v j side : Nat} (hm : h m = some (.inr (2, vFs f u i v j side))) (hmd : m < b ∨ b + 5 ≤ m) (hL : legal P f u i v j side) (hlo : lone P) (hok : posOK P) (hwb : wB P) (hpc : u ≠ v → 1 ≤ pc2) (hcap : capC (doMv P f u i v j side)) (hlv : ∀ w ∈ (doMv P f u i v j side).1, w ≤ 3) : ipC sc (d + 4) 54 [.ref b, .ref q, .ref m] h z 0 0 (qB h b z (fun h2 => pbIs h2 b le (if u = v then pc2 else pc2 - 1) ((doMv P f u i v j side).1, lnP le (doMv P f u i v j side).1 [] (doMv P f u i v j side).2, [], []))) := by
  obtain ⟨hth, huv0, hij, hcan, hside⟩ := hL
  obtain ⟨t1, t2, t3, t4, t5⟩ := of_decide_eq_true hth
  simp only at t1 t2 t3 t4 t5
  have hsl := sides_lt (t := (f, u, i, v, j)) hwb
  have hf : P.2[f]? = some (P.2.getD f []) := gD t1
  have hu : (P.2.getD f [])[u]? = some ((P.2.getD f []).getD u []) := gD t2
  have hv : (P.2.getD f [])[v]? = some ((P.2.getD f []).getD v []) := gD t4
  generalize hFd : P.2.getD f [] = Fd at hf hu hv
  have s2 : u < Fd.length := by have := t2; unfold fl at this; rw [hFd] at this; exact this
  have s3 : i < (Fd.getD u []).length := by have := t3; unfold wl at this; rw [hFd] at this; exact this
  have s4 : v < Fd.length := by have := t4; unfold fl at this; rw [hFd] at this; exact this
  have s5 : j < (Fd.getD v []).length := by have := t5; unfold wl at this; rw [hFd] at this; exact this
  generalize hx : Fd.getD u [] = x at hu s3
  generalize hy : Fd.getD v [] = y at hv s5
  have hi : x[i]? = some (x.getD i 0) := gD s3
  have hj : y[j]? = some (y.getD j 0) := gD s5
  have hcan : cM P.1 (x.getD i 0) (y.getD j 0) = true := by
    have := hcan
    unfold canT at this
    simp only at this
    rw [hFd, hx, hy] at this
    exact this
  generalize ha0 : x.getD i 0 = a at hi hcan
  generalize hb0 : y.getD j 0 = bb at hj hcan
  have eD1 : (doMv P f u i v j side).1 = lvA P.1 a bb := by unfold doMv; rw [hFd, hx, hy, ha0, hb0]
  have hal := hok.1 a (mem_pC hf hu hi)
  have hbl := hok.1 bb (mem_pC hf hv hj)
  have ha := gD (d := 0) hal
  have hb := gD (d := 0) hbl
  generalize hla : P.1.getD a 0 = la at ha
  generalize hlb : P.1.getD bb 0 = lb at hb
  have hla3 := hok.2 _ (List.mem_of_getElem? ha)
  unfold cM at hcan
  rw [hla, hlb, Bool.and_eq_true, decide_eq_true_eq, decide_eq_true_eq] at hcan
  obtain ⟨hc1, hc2⟩ := hcan
  have hla1 : 1 ≤ la := Nat.lt_of_le_of_lt (Nat.zero_le _) hc1
  have hlb2 : ∃ lb2, (P.1.set a (la - 1))[bb]? = some lb2 ∧ 1 ≤ lb2 := by
    by_cases e : a = bb
    · subst e
      refine ⟨la - 1, by rw [List.getElem?_set, if_pos rfl, if_pos hal], ?_⟩
      rw [if_pos rfl] at hc1
      omega
    · exact ⟨lb, by rw [List.getElem?_set_ne e]; exact hb, hc2⟩
  obtain ⟨lb2, hb2, hb21⟩ := hlb2
  have eL := lvA_set ha hb2
  have hcap1 := hcap.1
  rw [eD1] at hcap1 hlv
  have hlvl : (lvA P.1 a bb).length = P.1.length + 1 := by rw [← eL, List.length_append, List.length_set, List.length_set]; rfl
  have q1 := HQ.ob
  have q1 : h q = some (.inr (6, pFs q le2 (bC (P.1, P.2, [], [])).length (bW (P.1, P.2, [], [])).length P.2.length P.1.length pc2 P.1.sum)) := q1
  have hk3 : P.2.length ≤ 24 := by obtain ⟨-, sa, wf, ff, lf, -, -, -, -, -, -, -, k3, -⟩ := HQ; exact k3
  have hk2 : P.2.flatten.length ≤ 31 := by obtain ⟨-, sa, wf, ff, lf, -, -, -, -, -, -, k2, -, -⟩ := HQ; rw [bW_c] at k2; exact k2
  have hfl31 : Fd.length ≤ 31 := by have := take_fl hf; omega
  have hdd : ∀ h1, frm b 5 h h1 → ∀ y, q ≤ y → y < q + 5 → h1 y = h y := fun h1 hf y e1 e2 => hf y (by unfold ap5 at hd; omega)
  have hqq : ∀ h1, frm b 5 h h1 → h1 q = h q := fun h1 e => hdd h1 e q (by omega) (by omega)
  rw [eD1]
  refine ipC_mk [some (.ref b), some (.ref q), some (.ref m), none] rfl (Nat.le_of_ble_eq_true rfl) ?_
  refine c54_0 H.ob (Nat.zero_le _) (Nat.zero_le _) (t_takeSpots H HQ hd) (kB fun h1 f1 H1 => ?_)
  refine c54_5 (v_fs1_0 := f) (v_fs1_1 := u) (v_fs1_2 := i) ((f1 m hmd).trans hm) rfl rfl rfl ((hqq h1 f1).trans q1) (Nat.zero_le _) (Nat.zero_le _) (t_spot (HQ.off (hdd h1 f1)) hf hu hi) (kI ?_)
  refine c54_22 H1.ob (Nat.zero_le _) (Nat.zero_le _) (t_spend H1 ha hla1) (kB fun h2 f2 H2 => ?_)
  have f2 := f1.tr f2
  refine c54_25 (v_fs1_0 := f) (v_fs1_3 := v) (v_fs1_4 := j) ((f2 m hmd).trans hm) rfl rfl rfl ((hqq h2 f2).trans q1) (Nat.zero_le _) (Nat.zero_le _) (t_spot (HQ.off (hdd h2 f2)) hf hv hj) (kI ?_)
  refine c54_42 H2.ob (Nat.zero_le _) (Nat.zero_le _) (t_spend H2 hb2 hb21) (kB fun h3 f3 H3 => ?_)
  have f3 := f2.tr f3
  refine c54_45 H3.ob (Nat.zero_le _) (Nat.zero_le _) (t_addSpot H3 1 (by rw [List.length_set, List.length_set]; omega)) (kB fun h4 f4 H4 => ?_)
  have f4 := f3.tr f4
  rw [eL] at H4
  obtain ⟨Y, hY⟩ : ∃ Y, Y = (if u = v then half1 Fd u i j P.1.length side else mrg P.1 Fd u i v j P.1.length) := ⟨_, rfl⟩
  have hlT : (P.2.set f Y).length = P.2.length := List.length_set
  have eD2 : (doMv P f u i v j side).2 = if u = v then P.2.set f Y ++ [half2 P.1 Fd u i j P.1.length side] else P.2.set f Y := by
    unfold doMv
    rw [hFd]
    by_cases e : u = v
    · rw [if_pos e, if_pos e]; rw [if_pos e] at hY; rw [hY]
    · rw [if_neg e, if_neg e]; rw [if_neg e] at hY; rw [hY]
  have hTb : (P.2.set f Y).flatten.length ≤ 31 ∧ (P.2.set f Y).flatten.flatten.length ≤ 100 := by
    obtain ⟨-, -, e3, e4⟩ := hcap
    unfold pC pW at e4
    unfold pW at e3
    rw [eD2] at e3 e4
    split at e3
    · rename_i e
      rw [if_pos e] at e4
      rw [List.flatten_append, List.length_append] at e3
      rw [List.flatten_append, List.flatten_append, List.length_append] at e4
      exact ⟨by omega, by omega⟩
    · rename_i e
      rw [if_neg e] at e4
      exact ⟨e3, e4⟩
  have hspots : ∀ {g : Nat} {Fg : List (List Nat)}, P.2[g]? = some Fg → (∀ x ∈ Fg, x ≠ []) ∧ ∀ c ∈ Fg.flatten, c < (lvA P.1 a bb).length := by
    intro g Fg hg
    have hmem : ∀ x ∈ Fg, x ∈ pW P := fun x hx => List.mem_flatten.mpr ⟨Fg, List.mem_of_getElem? hg, hx⟩
    refine ⟨fun x hx => (hlo x (hmem x hx)).1, fun c hc => ?_⟩
    obtain ⟨x, hx, hcx⟩ := List.mem_flatten.mp hc
    have := hok.1 c (List.mem_flatten.mpr ⟨x, hmem x hx, hcx⟩)
    omega
  -- the fields
  have loop : ∀ n g h5 (pc5 : Nat), pc5 = (if u = v then pc2 else pc2 - 1) → g + n = P.2.length → frm b 5 h h5 → pbIs h5 b le pc5 (lvA P.1 a bb, lnP le (lvA P.1 a bb) [] ((P.2.set f Y).take g), [], []) → ip sc (ipC sc (d + 3)) 54 0 0 (qB h b z (fun h2 => pbIs h2 b le (if u = v then pc2 else pc2 - 1) (lvA P.1 a bb, lnP le (lvA P.1 a bb) [] (doMv P f u i v j side).2, [], []))) 73 [some (.ref b), some (.ref q), some (.ref m), some (.int (nI g))] [] h5 z 0 0 := by
    intro n
    induction n with
    | zero =>
      intro g h5 pc5 epc hg f5 H5
      have hm5 := (f5 m hmd).trans hm
      rw [List.take_of_length_le (by omega)] at H5
      refine c54_73 (v_fs1_7 := P.2.length) ((hqq h5 f5).trans q1) rfl (by omega) (by omega) (fun _ => ?_) (fun r => absurd (show _ ≤ _ by omega) r)
      refine c54_131 (v_fs1_1 := u) (v_fs1_3 := v) hm5 rfl rfl (by omega) (by omega) (fun hne => c54_149 ⟨rfl, rfl, f5, ?_⟩) (fun he => ?_)
      · rw [← epc, eD2, if_neg hne]
        exact H5
      · have he := Classical.not_not.mp he
        subst he
        have hyx : y = x := by rw [← hx, ← hy]
        subst hyx
        rw [if_pos rfl] at eD2
        have hcl := hcap
        unfold capC pC pW at hcl
        rw [eD2, List.flatten_append, List.flatten_append, List.length_append, List.length_append, List.length_append, hlT] at hcl
        simp only [List.flatten_cons, List.flatten_nil, List.append_nil, List.length_cons, List.length_nil] at hcl
        have hln := lnP_len (le := le) (lv := lvA P.1 a bb) (L := P.2.set f Y) (F := [])
        rw [hlT] at hln
        simp only [List.length_nil, List.flatten_nil] at hln
        refine c54_142 H5.ob (Nat.zero_le _) (Nat.zero_le _) (t_putHalf (T := half2 P.1 Fd u i j P.1.length side) H5 (HQ.off (hdd h5 f5)) hd hm5 hmd hf hu (hij rfl) s5 hlo hok hlvl hlv (by omega) (by decide) (by rw [half2_L (lv := P.1), hx]) (by omega) (by omega) (by omega)) (kB fun h6 f6 H6 => c54_149 ⟨rfl, rfl, f5.tr f6, ?_⟩)
        rw [← epc, eD2, lnP_s]
        exact H6
    | succ n ih =>
      intro g h5 pc5 epc hg f5 H5
      have hm5 := (f5 m hmd).trans hm
      obtain ⟨Fg, hFg⟩ := gt_some (l := P.2) (i := g) (by omega)
      obtain ⟨Tg, hTg⟩ := gt_some (l := P.2.set f Y) (i := g) (by omega)
      obtain ⟨e1, e2, e3, e4⟩ := take_fl hTg
      have hln := lnP_len (le := le) (lv := lvA P.1 a bb) (L := (P.2.set f Y).take g) (F := [])
      simp only [List.length_nil, List.flatten_nil] at hln
      have HQ5 := HQ.off (hdd h5 f5)
      have step : ∀ h6, frm b 5 h h6 → pbIs h6 b le pc5 (lvA P.1 a bb, clF le (lvA P.1 a bb) (lnP le (lvA P.1 a bb) [] ((P.2.set f Y).take g)) (lnW le (lvA P.1 a bb) [] Tg), [], []) → ip sc (ipC sc (d + 3)) 54 0 0 (qB h b z (fun h2 => pbIs h2 b le (if u = v then pc2 else pc2 - 1) (lvA P.1 a bb, lnP le (lvA P.1 a bb) [] (doMv P f u i v j side).2, [], []))) 125 [some (.ref b), some (.ref q), some (.ref m), some (.int (nI g))] [] h6 z 0 0 := by
        intro h6 f6 H6
        refine c54_125 (ih (g + 1) h6 pc5 epc (by omega) f6 ?_)
        rw [e1, lnP_s]
        exact H6
      refine c54_73 (v_fs1_7 := P.2.length) ((hqq h5 f5).trans q1) rfl (by omega) (by omega) (fun r => absurd r (by omega)) (fun _ => ?_)
      refine c54_81 (v_fs1_0 := f) hm5 rfl (by omega) (by omega) (fun he => ?_) (fun hne => ?_)
      · subst he
        have e5 : Fg = Fd := Option.some.inj (hFg.symm.trans hf)
        subst e5
        have e6 : Tg = Y := by
          rw [List.getElem?_set] at hTg
          simp at hTg
          exact hTg.2.symm
        subst e6
        refine c54_98 (v_fs1_1 := u) (v_fs1_3 := v) hm5 rfl rfl (by omega) (by omega) (fun he => ?_) (fun hne => ?_)
        · subst he
          have hyx : y = x := by rw [← hx, ← hy]
          subst hyx
          rw [if_pos rfl] at hY
          refine c54_118 H5.ob (Nat.zero_le _) (Nat.zero_le _) (t_putHalf (T := Tg) H5 HQ5 hd hm5 hmd hf hu (hij rfl) s5 hlo hok hlvl hlv (by omega) (by decide) (by rw [hY, half1_L (lv := P.1), hx]) (by omega) (by omega) (by omega)) (kB fun h6 f6 H6 => step h6 (f5.tr f6) H6)
        · rw [if_neg hne] at hY
          refine c54_109 H5.ob (Nat.zero_le _) (Nat.zero_le _) (t_putJoined (T := Tg) H5 HQ5 hd hm5 hmd hf hu hv s3 s5 hlo hok hlvl hlv (by rw [hY]; unfold mrg; rw [hx, hy]) (by omega) (by omega) (by omega)) (kB fun h6 f6 H6 => c54_115 (step h6 (f5.tr f6) H6))
      · have e6 : Tg = Fg := by
          rw [List.getElem?_set_ne (fun r => hne r.symm), hFg] at hTg
          exact (Option.some.inj hTg).symm
        subst e6
        obtain ⟨g1, g2⟩ := hspots hFg
        refine c54_89 H5.ob (Nat.zero_le _) (Nat.zero_le _) (t_putField H5 HQ5 hd hFg g1 g2 hlv (by omega) (by omega) (by omega)) (kB fun h6 f6 H6 => c54_95 (step h6 (f5.tr f6) H6))
  refine c54_50 (v_fs1_1 := u) (v_fs1_3 := v) ((f4 m hmd).trans hm) rfl rfl (by omega) (by omega) (fun he => c54_71 ?_) (fun hne => ?_)
  · exact loop P.2.length 0 h4 pc2 (if_pos he).symm (by omega) f4 H4
  · have hp := hpc hne
    refine c54_61 (v_fs1_9 := pc2) H4.ob rfl hp rfl (c54_71 ?_)
    refine loop P.2.length 0 _ (pc2 - 1) (if_neg hne).symm (by omega) (f4.up (by omega)) ?_
    obtain ⟨hle, sa, wf, ff, lf, hs, hR⟩ := H4
    exact pbIs_mk (h := h4) hle hs.ob rfl rfl rfl rfl rfl hR
end POS
