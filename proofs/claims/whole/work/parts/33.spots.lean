/-! the class's Position: rounds, spots -/
theorem cyc_s {x : List Nat} {m at0 : Nat} : cyc x at0 (m + 1) = x.getD at0 0 :: cyc x (if at0 + 1 < x.length then at0 + 1 else 0) m := rfl
theorem cyc_wrap {x : List Nat} : ∀ {m at0 : Nat}, at0 < x.length → x.length - at0 ≤ m → cyc x at0 m = x.drop at0 ++ cyc x 0 (m - (x.length - at0))
  | 0, at0, h1, h2 => by omega
  | m + 1, at0, h1, h2 => by
    rw [cyc_s, drop_cons (gD (d := 0) h1)]
    by_cases e : at0 + 1 < x.length
    · rw [if_pos e, cyc_wrap e (by omega), List.cons_append, show m - (x.length - (at0 + 1)) = m + 1 - (x.length - at0) by omega]
    · rw [if_neg e, List.drop_eq_nil_of_le (show x.length ≤ at0 + 1 by omega), show m + 1 - (x.length - at0) = m by omega]
      rfl
theorem cyc_round {x : List Nat} {i j k : Nat} (hj : j < x.length) (hi : i < x.length) (hk : k = x.length - j + (i + 1)) : cyc x j k = x.drop j ++ x.take (i + 1) := by
  rw [cyc_wrap hj (by omega), show k - (x.length - j) = i + 1 by omega, cyc_drop x _ 0 (by omega), List.drop_zero]
/-- a spot without curves is a wall of one corner -/
def lone (P : PosT) : Prop := ∀ x ∈ pW P, x ≠ [] ∧ ∀ a ∈ x, P.1.getD a 0 = 3 → x.length = 1
def whole (lv x : List Nat) (i : Nat) : Nat := if lv.getD (x.getD i 0) 0 = 3 then 1 else x.length + 1
theorem cyc_whole {P : PosT} {x : List Nat} {i : Nat} (hl : lone P) (hx : x ∈ pW P) (hi : i < x.length) : cyc x i (whole P.1 x i) = rnd P.1 x i := by
  unfold whole rnd
  by_cases e : P.1.getD (x.getD i 0) 0 = 3
  · rw [if_pos e, if_pos e]
    have h1 := (hl x hx).2 _ (List.mem_of_getElem? (gD (d := 0) hi)) e
    rw [cyc_drop x 1 i (by omega), List.append_nil, List.take_of_length_le (by rw [List.length_drop]; omega)]
  · rw [if_neg e, if_neg e]
    exact cyc_round hi hi (by omega)
section POS
variable {sc : ipSc} {d z b le pc q le2 pc2 : Nat} {h : HP} {lv : List Nat} {F : List (List (List Nat))} {X : List (List Nat)} {C : List Nat} {P : PosT}
theorem t_wholeRound (H : plIs h b le pc P) {w i : Nat} {x : List Nat} (hw : (pW P)[w]? = some x) (hi : i < x.length) (hok : posOK P) : ipC sc (d + 2) 58 [.ref b, .int (nI w), .int (nI i)] h z 0 0 (qI (nI (whole P.1 x i)) h z) := by
  have H0 := H
  obtain ⟨-, sa, wf, ff, lf, ⟨s1, s2, s3, s4, s5⟩, r1, r2, r3, r4, k1, k2, k3, k4⟩ := H
  rw [bW_c] at k2 r3
  rw [bC_c] at k1 r2
  simp only at k4 r1
  have hw2 : P.2.flatten[w]? = some x := hw
  have hlw := lt_some hw2
  have hay := gD (d := 0) hi
  have hbc : P.2.flatten.flatten[lSt P.2.flatten w + i]? = some (x.getD i 0) := lSt_at hw2 hay
  have hlc := lt_some hbc
  have hal : x.getD i 0 < P.1.length := hok.1 _ (List.mem_of_getElem? hbc)
  have hlg := gD (d := 0) hal
  have hl3 := hok.2 _ (List.mem_of_getElem? hlg)
  have hxl : x.length ≤ 100 := by
    have e1 := lSt_s hw2
    have e2 := lSt_le (l := P.2.flatten) (f := w + 1)
    omega
  refine ipC_mk [some (.ref b), some (.int (nI w)), some (.int (nI i))] rfl (Nat.le_of_ble_eq_true rfl) ?_
  refine c58_0 s1 rfl rfl rfl s3 (by omega) (by decide) (r3 w (by omega)) s2 (by omega) (by decide) (rowL_at r2 hbc) s5 (by omega) (by decide) (rowL_at r1 hlg) (by omega) (fun e => ?_) (fun e => ?_)
  · refine c58_26 s1 (Nat.zero_le _) (Nat.zero_le _) (t_size H0 hw) (kI (c58_31 (c58_33 ⟨?_, rfl, rfl⟩)))
    unfold whole
    rw [if_neg e]
  · refine c58_22 (c58_33 ⟨?_, rfl, rfl⟩)
    unfold whole
    rw [if_pos (Classical.not_not.mp e)]
theorem t_pclear {B : PB} (H : pbIs h b le pc B) : ipC sc (d + 1) 49 [.ref b] h z 0 0 (qB h b z (fun h2 => ∃ sa wf ff lf, psA h2 b le 0 0 0 0 0 0 sa wf ff lf ∧ wf 0 = nI 0 ∧ ff 0 = nI 0)) := by
  obtain ⟨hle, sa, wf, ff, lf, hs, r1, r2, r3, r4, k1, k2, k3, k4⟩ := H
  refine ipC_mk [some (.ref b)] rfl (Nat.le_of_ble_eq_true rfl) ?_
  refine c49_0 hs.1 rfl ⟨rfl, rfl, frm.rf.up (by omega), sa, wf, ff, lf, hs.ob, ?_, ?_⟩
  · rw [r3 0 (Nat.zero_le _), lSt_0]
  · rw [r4 0 (Nat.zero_le _), lSt_0]
theorem t_addSpot (H : pbIs h b le pc (lv, F, X, C)) (n : Nat) (hb : lv.length + 1 ≤ 31) : ipC sc (d + 1) 50 [.ref b, .int (nI n)] h z 0 0 (qB h b z (fun h2 => pbIs h2 b le pc (lv ++ [n], F, X, C))) := by
  obtain ⟨hle, sa, wf, ff, lf, hs, r1, r2, r3, r4, k1, k2, k3, k4⟩ := H
  simp only at k3 k4 r1 r4
  obtain ⟨s1, s2, s3, s4, s5⟩ := id hs
  have s1 : h b = some (.inr (6, pFs b le (bC (lv, F, X, C)).length (bW (lv, F, X, C)).length F.length lv.length pc lv.sum)) := s1
  refine ipC_mk [some (.ref b), some (.int (nI n))] rfl (Nat.le_of_ble_eq_true rfl) ?_
  refine c50_0 s1 rfl rfl s5 (by omega) (by decide) (fun r => absurd r (by omega)) (fun _ => ?_)
  refine c50_12 s1 rfl rfl s5 (by omega) (by decide) rfl (by omega) rfl rfl (c50_42 ⟨rfl, rfl, (frm.rf.up (by omega)).up (by omega), ?_⟩)
  refine pbIs_mk (h := h) hle hs.lf rfl rfl rfl (by rw [List.length_append]; rfl) (by rw [List.sum_append]; simp) ⟨?_, r2, r3, r4, ?_⟩
  · exact rowL_app r1 (by omega)
  · exact ⟨k1, k2, k3, by rw [List.length_append]; exact hb⟩
theorem sum_set : ∀ {l : List Nat} {a v : Nat}, l[a]? = some v → 1 ≤ v → (l.set a (v - 1)).sum + 1 = l.sum
  | [], a, v, h, _ => by simp at h
  | x :: l, 0, v, h, hv => by
    simp at h
    subst h
    simp only [List.set_cons_zero, List.sum_cons]
    omega
  | x :: l, a + 1, v, h, hv => by
    have := sum_set (l := l) (a := a) (v := v) (by simpa using h) hv
    simp only [List.set_cons_succ, List.sum_cons]
    omega
theorem t_spend (H : pbIs h b le pc (lv, F, X, C)) {a la : Nat} (ha : lv[a]? = some la) (h1 : 1 ≤ la) : ipC sc (d + 1) 55 [.ref b, .int (nI a)] h z 0 0 (qB h b z (fun h2 => pbIs h2 b le pc (lv.set a (la - 1), F, X, C))) := by
  obtain ⟨hle, sa, wf, ff, lf, hs, r1, r2, r3, r4, k1, k2, k3, k4⟩ := H
  simp only at k3 k4 r1 r4
  obtain ⟨s1, s2, s3, s4, s5⟩ := id hs
  have s1 : h b = some (.inr (6, pFs b le (bC (lv, F, X, C)).length (bW (lv, F, X, C)).length F.length lv.length pc lv.sum)) := s1
  have hal := lt_some ha
  have hsum := sum_set ha h1
  refine ipC_mk [some (.ref b), some (.int (nI a))] rfl (Nat.le_of_ble_eq_true rfl) ?_
  refine c55_0 s1 rfl s5 (by omega) (by decide) (rowL_at r1 ha) h1 rfl (by omega) rfl (by omega) rfl ⟨rfl, rfl, (frm.rf.up (by omega)).up (by omega), ?_⟩
  refine pbIs_mk (h := h) hle hs.lf rfl rfl rfl (by rw [List.length_set]) (by show lv.sum - 1 = (lv.set a (la - 1)).sum; omega) ⟨?_, r2, r3, r4, ?_⟩
  · exact rowL_set r1 (by omega) hal
  · exact ⟨k1, k2, k3, by rw [List.length_set]; exact k4⟩
theorem t_takeSpots {B : PB} (H : pbIs h b le pc B) (HQ : plIs h q le2 pc2 P) (hd : ap5 b q) : ipC sc (d + 2) 52 [.ref b, .ref q] h z 0 0 (qB h b z (fun h2 => pbIs h2 b le pc2 (P.1, [], [], []))) := by
  have hle := H.1
  have HQ0 := HQ
  have Hs := H
  obtain ⟨-, sa0, wf0, ff0, lf0, hs0, -⟩ := Hs
  refine ipC_mk [some (.ref b), some (.ref q)] rfl (Nat.le_of_ble_eq_true rfl) ?_
  refine b52_0 hs0.1 (Nat.zero_le _) (Nat.zero_le _) (t_pclear H) (kB fun h1 hf1 H1 => ?_)
  obtain ⟨sa, wf, ff, lf, hs, w0, f0⟩ := H1
  have HQ1 := HQ0.frm hf1 (by unfold ap5 at hd; omega)
  obtain ⟨-, sq, wq, fq, lq, hq, r1, r2, r3, r4, k1, k2, k3, k4⟩ := HQ1
  simp only at k4 r1
  obtain ⟨s1, s2, s3, s4, s5⟩ := id hs
  obtain ⟨q1, q2, q3, q4, q5⟩ := id hq
  have q1 : h1 q = some (.inr (6, pFs q le2 (bC (P.1, P.2, [], [])).length (bW (P.1, P.2, [], [])).length P.2.length P.1.length pc2 P.1.sum)) := q1
  unfold ap5 at hd
  refine jp_load (pc2 := 5) (n := 1) rfl rfl rfl rfl ?_
  refine jp_getf (pc2 := 8) rfl rfl q1 rfl ?_
  refine jp_con (pc2 := 9) (v := .int (nI 0)) rfl rfl rfl ?_
  refine jp_load (pc2 := 10) (n := 0) rfl rfl rfl rfl ?_
  refine jp_getf (pc2 := 13) rfl rfl s1 rfl ?_
  refine jp_con (pc2 := 14) (v := .int (nI 0)) rfl rfl rfl ?_
  refine jp_load (pc2 := 15) (n := 1) rfl rfl rfl rfl ?_
  refine jp_getf (pc2 := 18) rfl rfl q1 rfl ?_
  have hcl : (nI P.1.length).toNatClampNeg = P.1.length := nI_clamp (by omega)
  have hc0 : (nI 0).toNatClampNeg = 0 := nI_clamp (by decide)
  have hcp := ip_copy (sc := sc) (call := ipC sc (d + 1)) (mid := 52) (MC := 0) (MS := 0) (Q := qB h b z (fun h2 => pbIs h2 b le pc2 (P.1, [], [], []))) (pc := 18) (lv := [some (.ref b), some (.ref q)]) (st := []) (h := h1) (z := z) (c := 0) (s := 0) (x := 128) (len := 3) (b := 0) (sp := nI 0) (dp := nI 0) (n := nI P.1.length) rfl (Nat.le_of_ble_eq_true rfl) q5 s5 (nI_pos (by decide)) (nI_pos (by decide)) (nI_pos (by omega)) (by rw [hcl, hc0]; omega) (by rw [hcl, hc0]; omega) (by omega)
  refine hcp ?_
  rw [hcl, hc0]
  show ip _ _ _ _ _ _ 21 _ _ _ _ _ _
  refine jp_load (pc2 := 22) (n := 0) rfl rfl rfl rfl ?_
  refine jp_load (pc2 := 23) (n := 1) rfl rfl rfl rfl ?_
  refine jp_getf (pc2 := 26) rfl rfl (hup_ne (by omega) q1) rfl ?_
  refine jp_putf (pc2 := 29) rfl rfl (hup_ne (by omega) s1) (Nat.le_of_ble_eq_true rfl) ⟨rfl, rfl⟩ ?_
  refine jp_load (pc2 := 30) (n := 0) rfl rfl rfl rfl ?_
  refine jp_load (pc2 := 31) (n := 1) rfl rfl rfl rfl ?_
  refine jp_getf (pc2 := 34) rfl rfl (hup_ne (by omega) (hup_ne (by omega) q1)) rfl ?_
  refine jp_putf (pc2 := 37) rfl rfl hup_eq (Nat.le_of_ble_eq_true rfl) ⟨rfl, rfl⟩ ?_
  refine jp_load (pc2 := 38) (n := 0) rfl rfl rfl rfl ?_
  refine jp_load (pc2 := 39) (n := 1) rfl rfl rfl rfl ?_
  refine jp_getf (pc2 := 42) rfl rfl (hup_ne (by omega) (hup_ne (by omega) (hup_ne (by omega) q1))) rfl ?_
  refine jp_putf (pc2 := 45) rfl rfl hup_eq (Nat.le_of_ble_eq_true rfl) ⟨rfl, rfl⟩ ?_
  rw [hup_hup, hup_hup]
  refine ip_vret (st := []) rfl rfl ⟨rfl, rfl, (hf1.up (r := b + 4) (by omega)).up (by omega), ?_⟩
  refine pbIs_mk (h := h) (wf := wf) (ff := ff) (sa := sa) (lf := va_cpy lq lf 0 0 P.1.length) hle ?_ rfl rfl rfl rfl rfl ⟨?_, rowL_nil, ?_, ?_, ?_⟩
  · exact ⟨hup_eq, hup_ne (by omega) (hup_ne (by omega) s2), hup_ne (by omega) (hup_ne (by omega) s3), hup_ne (by omega) (hup_ne (by omega) s4), hup_ne (by omega) hup_eq⟩
  · intro i v hi
    rw [Nat.zero_add, pk_cpy_in (Nat.zero_le _) (by rw [Nat.zero_add]; exact lt_some hi), Nat.zero_add, Nat.sub_zero]
    exact rowL_at r1 hi
  · intro k hk
    have hk : k ≤ 0 := hk
    rw [show k = 0 by omega, lSt_0]
    exact w0
  · intro k hk
    have hk : k ≤ 0 := hk
    rw [show k = 0 by omega, lSt_0]
    exact f0
  · exact ⟨(Nat.le_of_ble_eq_true rfl), (Nat.le_of_ble_eq_true rfl), (Nat.le_of_ble_eq_true rfl), k4⟩
end POS
