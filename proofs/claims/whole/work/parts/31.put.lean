/-! the class's Position: put, closeWall -/
def qB (h : HP) (b z : Nat) (R : HP → Prop) : ipQ := fun o h2 z2 => o = none ∧ z2 = z ∧ frm b 5 h h2 ∧ R h2
theorem kB {sc : ipSc} {call : ipCall} {mid MC MS pc : Nat} {Q : ipQ} {lv : ipV} {rest : List Value} {h : HP} {b z c s : Nat} {R : HP → Prop} (K : ∀ h2, frm b 5 h h2 → R h2 → ip sc call mid MC MS Q pc lv rest h2 z c s) : ∀ (o : Option Value) (h2 : HP) (z2 : Nat), qB h b z R o h2 z2 → ip sc call mid MC MS Q pc lv (o.toList ++ rest) h2 z2 c s := by
  rintro _ h2 _ ⟨rfl, rfl, hf, hR⟩
  exact K h2 hf hR
def pPut (le : Nat) (lv C : List Nat) (a : Nat) : List Nat := if le = 1 ∧ (lv.getD a 0 = 0 ∨ C.getLast? = some a) then C else C ++ [a]
def pC1 (C : List Nat) : List Nat := if 1 < C.length ∧ C.head? = C.getLast? then C.dropLast else C
def clW (le : Nat) (X : List (List Nat)) (C : List Nat) : List (List Nat) := if le = 1 then (if pC1 C = [] then X else X ++ [pC1 C]) else X ++ [C]
theorem lSt_app {α : Type} {l r : List (List α)} {k : Nat} (h : k ≤ l.length) : lSt (l ++ r) k = lSt l k := by
  unfold lSt
  rw [List.take_append_of_le_length h]
theorem pbIs_mk {h h2 : HP} {b le pc cc wc fc sc lc : Nat} {sa wf ff lf : Nat → Int32} {B : PB} (hle : le ≤ 1) (H : psA h2 b le cc wc fc sc pc lc sa wf ff lf) (e1 : cc = (bC B).length) (e2 : wc = (bW B).length) (e3 : fc = B.2.1.length) (e4 : sc = B.1.length) (e5 : lc = B.1.sum) (hR : pbR B sa wf ff lf) : pbIs h2 b le pc B := by
  subst e1; subst e2; subst e3; subst e4; subst e5
  exact ⟨hle, sa, wf, ff, lf, H, hR⟩
theorem psA.sa {h : HP} {b le cc wc fc sc pc lc cc2 : Nat} {sa wf ff lf sa2 : Nat → Int32} (H : psA h b le cc wc fc sc pc lc sa wf ff lf) : psA (hup (hup h (b + 1) (.inl (0, 100, .inl sa2))) b (.inr (6, pFs b le cc2 wc fc sc pc lc))) b le cc2 wc fc sc pc lc sa2 wf ff lf :=
  ⟨hup_eq, hup_ne (by omega) hup_eq, hup_ne (by omega) (hup_ne (by omega) H.2.2.1), hup_ne (by omega) (hup_ne (by omega) H.2.2.2.1), hup_ne (by omega) (hup_ne (by omega) H.2.2.2.2)⟩
theorem psA.ob {h : HP} {b le cc wc fc sc pc lc cc2 wc2 fc2 sc2 pc2 lc2 : Nat} {sa wf ff lf : Nat → Int32} (H : psA h b le cc wc fc sc pc lc sa wf ff lf) : psA (hup h b (.inr (6, pFs b le cc2 wc2 fc2 sc2 pc2 lc2))) b le cc2 wc2 fc2 sc2 pc2 lc2 sa wf ff lf :=
  ⟨hup_eq, hup_ne (by omega) H.2.1, hup_ne (by omega) H.2.2.1, hup_ne (by omega) H.2.2.2.1, hup_ne (by omega) H.2.2.2.2⟩
theorem psA.wf {h : HP} {b le cc wc fc sc pc lc wc2 : Nat} {sa wf ff lf wf2 : Nat → Int32} (H : psA h b le cc wc fc sc pc lc sa wf ff lf) : psA (hup (hup h b (.inr (6, pFs b le cc wc2 fc sc pc lc))) (b + 2) (.inl (0, 32, .inl wf2))) b le cc wc2 fc sc pc lc sa wf2 ff lf :=
  ⟨hup_ne (by omega) hup_eq, hup_ne (by omega) (hup_ne (by omega) H.2.1), hup_eq, hup_ne (by omega) (hup_ne (by omega) H.2.2.2.1), hup_ne (by omega) (hup_ne (by omega) H.2.2.2.2)⟩
theorem psA.ff {h : HP} {b le cc wc fc sc pc lc fc2 : Nat} {sa wf ff lf ff2 : Nat → Int32} (H : psA h b le cc wc fc sc pc lc sa wf ff lf) : psA (hup (hup h b (.inr (6, pFs b le cc wc fc2 sc pc lc))) (b + 3) (.inl (0, 25, .inl ff2))) b le cc wc fc2 sc pc lc sa wf ff2 lf :=
  ⟨hup_ne (by omega) hup_eq, hup_ne (by omega) (hup_ne (by omega) H.2.1), hup_ne (by omega) (hup_ne (by omega) H.2.2.1), hup_eq, hup_ne (by omega) (hup_ne (by omega) H.2.2.2.2)⟩
theorem psA.lf {h : HP} {b le cc wc fc sc pc lc sc2 lc2 : Nat} {sa wf ff lf lf2 : Nat → Int32} (H : psA h b le cc wc fc sc pc lc sa wf ff lf) : psA (hup (hup h (b + 4) (.inl (0, 31, .inl lf2))) b (.inr (6, pFs b le cc wc fc sc2 pc lc2))) b le cc wc fc sc2 pc lc2 sa wf ff lf2 :=
  ⟨hup_eq, hup_ne (by omega) (hup_ne (by omega) H.2.1), hup_ne (by omega) (hup_ne (by omega) H.2.2.1), hup_ne (by omega) (hup_ne (by omega) H.2.2.2.1), hup_ne (by omega) hup_eq⟩
section POS
variable {sc : ipSc} {d z b le pc : Nat} {h : HP} {lv : List Nat} {F : List (List (List Nat))} {X : List (List Nat)} {C : List Nat}
theorem bC_put {a : Nat} : bC (lv, F, X, C ++ [a]) = bC (lv, F, X, C) ++ [a] := by simp [bC, bW]
theorem t_put (H : pbIs h b le pc (lv, F, X, C)) {a la : Nat} (ha : lv[a]? = some la) (hla : la ≤ 3) (hC : ∀ c ∈ C, c < lv.length) (hb : (bC (lv, F, X, C)).length + 1 ≤ 100) : ipC sc (d + 1) 61 [.ref b, .int (nI a)] h z 0 0 (qB h b z (fun h2 => pbIs h2 b le pc (lv, F, X, pPut le lv C a))) := by
  have H0 := H
  obtain ⟨hle, sa, wf, ff, lf, hs, r1, r2, r3, r4, k1, k2, k3, k4⟩ := H
  simp only at k3 k4 r1 r4
  have hal := lt_some ha
  have hgd : lv.getD a 0 = la := getD_of ha
  obtain ⟨s1, s2, s3, s4, s5⟩ := id hs
  have hcl : (bC (lv, F, X, C)).length = (bW (lv, F, X, C)).flatten.length + C.length := by unfold bC; rw [List.length_append]
  have hw : wf (bW (lv, F, X, C)).length = nI ((bW (lv, F, X, C)).flatten.length) := by rw [r3 _ (Nat.le_refl _), lSt_len]
  have stop : le = 1 ∧ (lv.getD a 0 = 0 ∨ C.getLast? = some a) → ∀ o0 o1 o2 : Option Value, ip sc (ipC sc d) 61 0 0 (qB h b z (fun h2 => pbIs h2 b le pc (lv, F, X, pPut le lv C a))) 57 [o0, o1, o2] [] h z 0 0 := by
    intro e o0 o1 o2
    refine c61_57 ⟨rfl, rfl, frm.rf, ?_⟩
    unfold pPut
    rw [if_pos e]
    exact H0
  have go : ¬ (le = 1 ∧ (lv.getD a 0 = 0 ∨ C.getLast? = some a)) → ∀ o2 : Option Value, ip sc (ipC sc d) 61 0 0 (qB h b z (fun h2 => pbIs h2 b le pc (lv, F, X, pPut le lv C a))) 58 [some (.ref b), some (.int (nI a)), o2] [] h z 0 0 := by
    intro e o2
    refine c61_58 s1 rfl rfl s2 (by omega) (by decide) (fun r => absurd r (by omega)) (fun _ => ?_)
    refine c61_70 s1 rfl rfl s2 (by omega) (by decide) rfl (by omega) rfl (c61_90 ⟨rfl, rfl, (frm.rf.up (by omega)).up (by omega), ?_⟩)
    unfold pPut
    rw [if_neg e]
    refine pbIs_mk (h := h) hle hs.sa (by rw [bC_put, List.length_append]; rfl) rfl rfl rfl rfl ⟨r1, ?_, r3, r4, ?_⟩
    · rw [bC_put]
      exact rowL_app r2 (by omega)
    · exact ⟨by rw [bC_put, List.length_append]; exact hb, k2, k3, k4⟩
  refine ipC_mk [some (.ref b), some (.int (nI a)), none] rfl (Nat.le_of_ble_eq_true rfl) ?_
  refine c61_0 s1 rfl rfl rfl s3 (by omega) (by decide) hw (by omega) (by omega) (fun r => c61_20 ?_) (fun r => c61_16 ?_)
  · have hC0 : C = [] := List.length_eq_zero_iff.mp (by omega)
    refine c61_21 (v_fs1_0 := le) s1 rfl (by omega) (fun e => go (by omega) _) (fun e => ?_)
    refine c61_29 s1 rfl s5 (by omega) (by decide) (rowL_at r1 ha) (by omega) (fun e2 => stop ⟨by omega, Or.inl (by omega)⟩ _ _ _) (fun e2 => ?_)
    refine c61_38 (by decide) (fun _ => go ?_ _) (fun q => absurd rfl q)
    rintro ⟨-, q | q⟩
    · omega
    · rw [hC0] at q; cases q
  · refine c61_21 (v_fs1_0 := le) s1 rfl (by omega) (fun e => go (by omega) _) (fun e => ?_)
    refine c61_29 s1 rfl s5 (by omega) (by decide) (rowL_at r1 ha) (by omega) (fun e2 => stop ⟨by omega, Or.inl (by omega)⟩ _ _ _) (fun e2 => ?_)
    refine c61_38 (by decide) (fun q => absurd q (by decide)) (fun _ => ?_)
    have hCl : 0 < C.length := by omega
    obtain ⟨y, hy⟩ := gt_some (l := C) (i := C.length - 1) (by omega)
    have hyC : y < lv.length := hC y (List.mem_of_getElem? hy)
    have hbc : (bC (lv, F, X, C))[(bC (lv, F, X, C)).length - 1]? = some y := by
      rw [hcl, show (bW (lv, F, X, C)).flatten.length + C.length - 1 = (bW (lv, F, X, C)).flatten.length + (C.length - 1) by omega]
      unfold bC
      rw [List.getElem?_append_right (by omega), Nat.add_sub_cancel_left]
      exact hy
    have hgl : C.getLast? = some y := by rw [List.getLast?_eq_getElem?]; exact hy
    refine c61_42 s1 rfl rfl (by omega) s2 (by omega) (by decide) (rowL_at r2 hbc) (by omega) (by omega) (fun e3 => go ?_ _) (fun e3 => stop ⟨by omega, Or.inr ?_⟩ _ _ _)
    · rintro ⟨-, q | q⟩
      · omega
      · rw [hgl] at q; exact e3 (Option.some.inj q)
    · rw [hgl, Classical.not_not.mp e3]
theorem pC1_len : (pC1 C).length ≤ C.length := by
  unfold pC1
  split
  · rw [List.length_dropLast]; omega
  · omega
theorem bC_len : (bC (lv, F, X, C)).length = (bW (lv, F, X, C)).flatten.length + C.length := by unfold bC; rw [List.length_append]
theorem bW_cl : bW (lv, F, X ++ [C], []) = bW (lv, F, X, C) ++ [C] := by unfold bW; rw [List.append_assoc]
theorem bC_cl : bC (lv, F, X ++ [C], []) = bC (lv, F, X, C) := by unfold bC; rw [bW_cl, List.flatten_append]; simp
/-- the wall is closed as it stands -/
theorem u_close (H : pbIs h b le pc (lv, F, X, C)) (hb : (bW (lv, F, X, C)).length + 1 ≤ 31) (o1 : Option Value) (R : HP → Prop) (h0 : HP) (hf0 : frm b 5 h0 h) (hR : ∀ h2, frm b 5 h0 h2 → pbIs h2 b le pc (lv, F, X ++ [C], []) → R h2) : ip sc (ipC sc d) 62 0 0 (qB h0 b z R) 66 [some (.ref b), o1] [] h z 0 0 := by
  obtain ⟨hle, sa, wf, ff, lf, hs, r1, r2, r3, r4, k1, k2, k3, k4⟩ := H
  simp only at k3 k4 r1 r4
  obtain ⟨s1, s2, s3, s4, s5⟩ := id hs
  refine c62_66 s1 rfl (by omega) (fun r => absurd r (by omega)) (fun _ => ?_)
  refine c62_75 s1 rfl rfl rfl rfl s3 (by omega) (by omega) (by decide) rfl (c62_98 ?_)
  have hfr : frm b 5 h0 _ := (hf0.up (r := b) (e := .inr (6, pFs b le (bC (lv, F, X, C)).length ((bW (lv, F, X, C)).length + 1) F.length lv.length pc lv.sum)) (by omega)).up (r := b + 2) (e := .inl (0, 32, .inl (upd wf ((bW (lv, F, X, C)).length + 1) (nI (bC (lv, F, X, C)).length)))) (by omega)
  refine ⟨rfl, rfl, hfr, hR _ hfr ?_⟩
  refine pbIs_mk (h := h) hle hs.wf (by rw [bC_cl]) (by rw [bW_cl, List.length_append]; rfl) rfl rfl rfl ⟨r1, by rw [bC_cl]; exact r2, ?_, r4, ?_⟩
  · intro k hk
    rw [bW_cl, List.length_append] at hk
    rw [bW_cl]
    by_cases e : k = (bW (lv, F, X, C)).length + 1
    · subst e
      rw [pk_us]
      have : lSt (bW (lv, F, X, C) ++ [C]) ((bW (lv, F, X, C)).length + 1) = (bC (lv, F, X, C)).length := by
        rw [show (bW (lv, F, X, C)).length + 1 = (bW (lv, F, X, C) ++ [C]).length by rw [List.length_append]; rfl, lSt_len, ← bW_cl, ← bC_cl]
        unfold bC
        rw [List.append_nil]
      rw [this]
    · rw [pk_un e, lSt_app (by simp only [List.length_cons, List.length_nil] at hk; omega)]
      exact r3 k (by simp only [List.length_cons, List.length_nil] at hk; omega)
  · exact ⟨by rw [bC_cl]; exact k1, by rw [bW_cl, List.length_append]; exact hb, k3, k4⟩
theorem t_closeWall (H : pbIs h b le pc (lv, F, X, C)) (hC : ∀ c ∈ C, c < lv.length) (hb : (bW (lv, F, X, C)).length + 1 ≤ 31) : ipC sc (d + 1) 62 [.ref b] h z 0 0 (qB h b z (fun h2 => pbIs h2 b le pc (lv, F, clW le X C, []))) := by
  have H0 := H
  obtain ⟨hle, sa, wf, ff, lf, hs, r1, r2, r3, r4, k1, k2, k3, k4⟩ := H
  simp only at k3 k4 r1 r4
  obtain ⟨s1, s2, s3, s4, s5⟩ := id hs
  have hw : wf (bW (lv, F, X, C)).length = nI ((bW (lv, F, X, C)).flatten.length) := by rw [r3 _ (Nat.le_refl _), lSt_len]
  have hcl := bC_len (lv := lv) (F := F) (X := X) (C := C)
  refine ipC_mk [some (.ref b), none] rfl (Nat.le_of_ble_eq_true rfl) ?_
  refine c62_0 (v_fs1_0 := le) s1 rfl rfl s3 (by omega) (by decide) hw rfl (by omega) (fun e => ?_) (fun e => ?_)
  · refine u_close H0 hb _ _ h frm.rf (fun h2 _ q => ?_)
    unfold clW
    rw [if_neg (by omega)]
    exact q
  · have e1 : le = 1 := by omega
    -- behind the test of the ends: corners C1
    have tail : ∀ (C1 : List Nat) (h1 : HP) (o1 : Option Value), pC1 C = C1 → frm b 5 h h1 → pbIs h1 b le pc (lv, F, X, C1) → ip sc (ipC sc d) 62 0 0 (qB h b z (fun h2 => pbIs h2 b le pc (lv, F, clW le X C, []))) 57 [some (.ref b), some (.int (nI (bW (lv, F, X, C)).flatten.length))] [] h1 z 0 0 := by
      intro C1 h1 o1 e2 hf hp
      have hp0 := hp
      obtain ⟨-, sa1, wf1, ff1, lf1, hs1, t1, t2, t3, t4, j1, j2, j3, j4⟩ := hp
      have hl1 := bC_len (lv := lv) (F := F) (X := X) (C := C1)
      have hbw : bW (lv, F, X, C1) = bW (lv, F, X, C) := rfl
      rw [hbw] at hl1
      refine c62_57 (v_fs1_5 := (bC (lv, F, X, C1)).length) hs1.1 rfl (by omega) (by omega) (fun r => ?_) (fun r => c62_65 ⟨rfl, rfl, hf, ?_⟩)
      · have hne : C1 ≠ [] := fun q => r (by rw [hl1, q]; rfl)
        refine u_close hp0 hb _ _ h hf (fun h2 _ q => ?_)
        unfold clW
        rw [if_pos e1, e2, if_neg hne]
        exact q
      · have r := Classical.not_not.mp r
        have hn : C1 = [] := List.length_eq_zero_iff.mp (by omega)
        unfold clW
        rw [if_pos e1, e2, if_pos hn]
        subst hn
        exact hp0
    refine c62_17 s1 rfl (by omega) (by omega) (fun r => tail C h none ?_ frm.rf H0) (fun r => ?_)
    · unfold pC1
      rw [if_neg (by omega)]
    · obtain ⟨y0, hy0⟩ := gt_some (l := C) (i := 0) (by omega)
      obtain ⟨y1, hy1⟩ := gt_some (l := C) (i := C.length - 1) (by omega)
      have hb0 : (bC (lv, F, X, C))[(bW (lv, F, X, C)).flatten.length]? = some y0 := by
        unfold bC
        rw [List.getElem?_append_right (Nat.le_refl _), Nat.sub_self]
        exact hy0
      have hb1 : (bC (lv, F, X, C))[(bC (lv, F, X, C)).length - 1]? = some y1 := by
        rw [hcl, show (bW (lv, F, X, C)).flatten.length + C.length - 1 = (bW (lv, F, X, C)).flatten.length + (C.length - 1) by omega]
        unfold bC
        rw [List.getElem?_append_right (by omega), Nat.add_sub_cancel_left]
        exact hy1
      have q0 : y0 < lv.length := hC y0 (List.mem_of_getElem? hy0)
      have q1 : y1 < lv.length := hC y1 (List.mem_of_getElem? hy1)
      have hh : C.head? = some y0 := by rw [List.head?_eq_getElem?]; exact hy0
      have hg : C.getLast? = some y1 := by rw [List.getLast?_eq_getElem?]; exact hy1
      refine c62_27 s1 rfl s2 (by omega) (by decide) (rowL_at r2 hb0) rfl (by omega) (by omega) (rowL_at r2 hb1) (by omega) (by omega) (fun e3 => tail C h none ?_ frm.rf H0) (fun e3 => ?_)
      · unfold pC1
        rw [if_neg]
        rintro ⟨-, q⟩
        rw [hh, hg] at q
        exact e3 (Option.some.inj q)
      · have e3 := Classical.not_not.mp e3
        refine c62_47 s1 rfl (by omega) rfl (tail C.dropLast _ none ?_ (frm.rf.up (by omega)) ?_)
        · unfold pC1
          rw [if_pos ⟨by omega, by rw [hh, hg, e3]⟩]
        · have hdl : (bC (lv, F, X, C.dropLast)) = (bC (lv, F, X, C)).dropLast := by
            unfold bC
            rw [List.dropLast_append_of_ne_nil (fun q => by have q : C = [] := q; have := congrArg List.length q; simp only [List.length_nil] at this; omega)]
            rfl
          refine pbIs_mk (h := h) hle hs.ob (by rw [hdl, List.length_dropLast]) rfl rfl rfl rfl ⟨r1, ?_, r3, r4, ?_⟩
          · rw [hdl]
            intro i v hi
            rw [List.getElem?_dropLast] at hi
            split at hi
            · exact r2 i v hi
            · cases hi
          · exact ⟨by rw [hdl, List.length_dropLast]; omega, k2, k3, k4⟩
/-- can a move be made among these corners -/
def cMv (lv K : List Nat) : Bool := K.any (fun a => decide (2 ≤ lv.getD a 0) || decide (some a ≠ K.head?))
theorem t_canMoveFrom (H : pbIs h b le pc (lv, F, X, [])) (hK : ∀ c ∈ X.flatten, c < lv.length) (hlv : ∀ v ∈ lv, v ≤ 3) : ipC sc (d + 1) 64 [.ref b, .int (nI F.flatten.flatten.length)] h z 0 0 (qI (nI (cMv lv X.flatten).toNat) h z) := by
  obtain ⟨hle, sa, wf, ff, lf, hs, r1, r2, r3, r4, k1, k2, k3, k4⟩ := H
  simp only at k3 k4 r1 r4
  obtain ⟨s1, s2, s3, s4, s5⟩ := id hs
  have eC : bC (lv, F, X, []) = F.flatten.flatten ++ X.flatten := by unfold bC bW; simp
  rw [eC] at k1 r2
  rw [eC] at s1
  rw [List.length_append] at k1
  have s1 : h b = some (.inr (6, pFs b le (F.flatten.flatten.length + X.flatten.length) (bW (lv, F, X, [])).length F.length lv.length pc lv.sum)) := by rw [← List.length_append]; exact s1
  refine ipC_mk [some (.ref b), some (.int (nI F.flatten.flatten.length)), none] rfl (Nat.le_of_ble_eq_true rfl) (c64_0 ?_)
  have loop : ∀ n k, k + n = X.flatten.length → (∀ j a, j < k → X.flatten[j]? = some a → (decide (2 ≤ lv.getD a 0) || decide (some a ≠ X.flatten.head?)) = false) → ip sc (ipC sc d) 64 0 0 (qI (nI (cMv lv X.flatten).toNat) h z) 2 [some (.ref b), some (.int (nI F.flatten.flatten.length)), some (.int (nI (F.flatten.flatten.length + k)))] [] h z 0 0 := by
    intro n
    induction n with
    | zero =>
      intro k hk hno
      refine c64_2 s1 rfl (by omega) (by omega) (fun _ => c64_48 ⟨?_, rfl, rfl⟩) (fun q => absurd (show _ ≤ _ by omega) q)
      have : cMv lv X.flatten = false := by
        unfold cMv
        rw [List.any_eq_false]
        intro a ha
        obtain ⟨j, hj, rfl⟩ := List.getElem_of_mem ha
        rw [hno j _ (by omega) (List.getElem?_eq_getElem hj)]
        decide
      rw [this]
      rfl
    | succ n ih =>
      intro k hk hno
      obtain ⟨a, ha⟩ := gt_some (l := X.flatten) (i := k) (by omega)
      obtain ⟨a0, ha0⟩ := gt_some (l := X.flatten) (i := 0) (by omega)
      have hal := hK a (List.mem_of_getElem? ha)
      have hal0 := hK a0 (List.mem_of_getElem? ha0)
      have hla := gD (d := 0) hal
      have hla3 := hlv _ (List.mem_of_getElem? hla)
      have e1 : (F.flatten.flatten ++ X.flatten)[F.flatten.flatten.length + k]? = some a := by rw [List.getElem?_append_right (by omega), Nat.add_sub_cancel_left]; exact ha
      have e0 : (F.flatten.flatten ++ X.flatten)[F.flatten.flatten.length]? = some a0 := by rw [List.getElem?_append_right (by omega), Nat.sub_self]; exact ha0
      have hh : X.flatten.head? = some a0 := by rw [List.head?_eq_getElem?]; exact ha0
      have yes : (decide (2 ≤ lv.getD a 0) || decide (some a ≠ X.flatten.head?)) = true → ip sc (ipC sc d) 64 0 0 (qI (nI (cMv lv X.flatten).toNat) h z) 40 [some (.ref b), some (.int (nI F.flatten.flatten.length)), some (.int (nI (F.flatten.flatten.length + k)))] [] h z 0 0 := by
        intro q
        have : cMv lv X.flatten = true := by
          unfold cMv
          rw [List.any_eq_true]
          exact ⟨a, List.mem_of_getElem? ha, q⟩
        rw [this]
        exact c64_40 ⟨rfl, rfl, rfl⟩
      refine c64_2 s1 rfl (by omega) (by omega) (fun q => absurd q (by omega)) (fun _ => ?_)
      refine c64_10 s1 rfl rfl s2 (by omega) (by decide) (rowL_at r2 e1) s5 (by omega) (by decide) (rowL_at r1 hla) (by omega) (fun q => yes (by rw [decide_eq_true q]; rfl)) (fun q2 => ?_)
      refine c64_25 s1 rfl s2 (by omega) (by decide) (rowL_at r2 e1) (by omega) (rowL_at r2 e0) (by omega) (by omega) (fun e => c64_42 ?_) (fun e => yes ?_)
      · refine ih (k + 1) (by omega) (fun j x hj hx => ?_)
        by_cases ej : j = k
        · subst ej
          have : x = a := Option.some.inj (hx.symm.trans ha)
          subst this
          rw [decide_eq_false q2, hh, e]
          simp
        · exact hno j x (by omega) hx
      · rw [hh, decide_eq_true (show some a ≠ some a0 from fun r => e (Option.some.inj r)), Bool.or_true]
  exact loop X.flatten.length 0 (by omega) (fun j a hj => absurd hj (by omega))
def clF (le : Nat) (lv : List Nat) (F : List (List (List Nat))) (X : List (List Nat)) : List (List (List Nat)) := if le = 1 ∧ cMv lv X.flatten = false then F else F ++ [X]
theorem t_closeField (H : pbIs h b le pc (lv, F, X, [])) (hK : ∀ c ∈ X.flatten, c < lv.length) (hlv : ∀ v ∈ lv, v ≤ 3) (hb : F.length + 1 ≤ 24) : ipC sc (d + 2) 63 [.ref b] h z 0 0 (qB h b z (fun h2 => pbIs h2 b le pc (lv, clF le lv F X, [], []))) := by
  have H0 := H
  obtain ⟨hle, sa, wf, ff, lf, hs, r1, r2, r3, r4, k1, k2, k3, k4⟩ := H
  simp only at k3 k4 r1 r4
  obtain ⟨s1, s2, s3, s4, s5⟩ := id hs
  have s1 : h b = some (.inr (6, pFs b le (bC (lv, F, X, [])).length (bW (lv, F, X, [])).length F.length lv.length pc lv.sum)) := s1
  have eW : bW (lv, F, X, []) = F.flatten ++ X := rfl
  have eC : bC (lv, F, X, []) = F.flatten.flatten ++ X.flatten := by unfold bC bW; simp
  have hff : ff F.length = nI F.flatten.length := by rw [r4 _ (Nat.le_refl _), lSt_len]
  have hwl : (bW (lv, F, X, [])).length = F.flatten.length + X.length := by rw [eW, List.length_append]
  have hwf : wf F.flatten.length = nI F.flatten.flatten.length := by
    rw [r3 _ (by omega), eW, lSt_app (Nat.le_refl _), lSt_len]
  have keep : ¬ (le = 1 ∧ cMv lv X.flatten = false) → ip sc (ipC sc (d + 1)) 63 0 0 (qB h b z (fun h2 => pbIs h2 b le pc (lv, clF le lv F X, [], []))) 57 [some (.ref b)] [] h z 0 0 := by
    intro e
    refine c63_57 s1 rfl (by omega) (fun r => absurd r (by omega)) (fun _ => ?_)
    refine c63_66 s1 rfl rfl rfl rfl s4 (by omega) (by omega) (by decide) rfl (c63_89 ⟨rfl, rfl, (frm.rf.up (by omega)).up (by omega), ?_⟩)
    unfold clF
    rw [if_neg e]
    have eW2 : bW (lv, F ++ [X], [], []) = bW (lv, F, X, []) := by unfold bW; simp
    have eC2 : bC (lv, F ++ [X], [], []) = bC (lv, F, X, []) := by unfold bC; rw [eW2]
    refine pbIs_mk (h := h) hle hs.ff (by rw [eC2]) (by rw [eW2]) (by rw [List.length_append]; rfl) rfl rfl ⟨r1, by rw [eC2]; exact r2, by rw [eW2]; exact r3, ?_, ?_⟩
    · intro k hk
      have hk : k ≤ (F ++ [X]).length := hk
      rw [List.length_append] at hk
      by_cases ek : k = F.length + 1
      · subst ek
        rw [pk_us, hwl]
        have : lSt (F ++ [X]) (F.length + 1) = F.flatten.length + X.length := by
          rw [show F.length + 1 = (F ++ [X]).length by rw [List.length_append]; rfl, lSt_len]
          simp
        rw [this]
      · rw [pk_un ek]
        show ff k = nI (lSt (F ++ [X]) k)
        rw [lSt_app (by simp only [List.length_cons, List.length_nil] at hk; omega)]
        exact r4 k (by simp only [List.length_cons, List.length_nil] at hk; omega)
    · exact ⟨by rw [eC2]; exact k1, by rw [eW2]; exact k2, by rw [List.length_append]; exact hb, k4⟩
  refine ipC_mk [some (.ref b)] rfl (Nat.le_of_ble_eq_true rfl) ?_
  refine c63_0 (v_fs1_0 := le) s1 rfl (by omega) (fun e => keep (by omega)) (fun e => ?_)
  have e1 : le = 1 := by omega
  refine c63_7 s1 rfl rfl rfl s4 (by omega) (by decide) hff s3 (by omega) (by decide) hwf (Nat.zero_le _) (Nat.zero_le _) (t_canMoveFrom H0 hK hlv) (kI ?_)
  by_cases hm : cMv lv X.flatten = true
  · rw [hm]
    exact c63_25 (by decide) (fun _ => keep (by rw [hm]; simp)) (fun q => absurd (by decide) q)
  · have hm2 : cMv lv X.flatten = false := by
      cases e : cMv lv X.flatten
      · rfl
      · exact absurd e hm
    rw [hm2]
    refine c63_25 (by decide) (fun q => absurd rfl q) (fun _ => ?_)
    refine c63_28 s1 rfl rfl s4 (by omega) (by decide) hff rfl rfl s3 (by omega) (by omega) (by decide) hwf (c63_89 ⟨rfl, rfl, frm.rf.up (by omega), ?_⟩)
    unfold clF
    rw [if_pos ⟨e1, hm2⟩]
    have eW2 : bW (lv, F, [], []) = F.flatten := bW_c
    have eC2 : bC (lv, F, [], []) = F.flatten.flatten := bC_c
    refine pbIs_mk (h := h) hle hs.ob (by rw [eC2]) (by rw [eW2]) rfl rfl rfl ⟨r1, ?_, ?_, r4, ?_⟩
    · rw [eC2]
      intro i v hi
      refine r2 i v ?_
      rw [eC, List.getElem?_append_left (lt_some hi)]
      exact hi
    · rw [eW2]
      intro k hk
      rw [r3 k (by omega), eW, lSt_app hk]
    · rw [eC, List.length_append] at k1
      exact ⟨by rw [eC2]; omega, by rw [eW2]; omega, k3, k4⟩
end POS
