/-! the class's Position: putRound, putField -/
def cyc (x : List Nat) : Nat → Nat → List Nat
  | _, 0 => []
  | at0, m + 1 => x.getD at0 0 :: cyc x (if at0 + 1 < x.length then at0 + 1 else 0) m
def putL (le : Nat) (lv C l : List Nat) : List Nat := l.foldl (pPut le lv) C
def lnW (le : Nat) (lv : List Nat) (X Fd : List (List Nat)) : List (List Nat) := Fd.foldl (fun X x => clW le X (putL le lv [] x)) X
def lnP (le : Nat) (lv : List Nat) (F fs : List (List (List Nat))) : List (List (List Nat)) := fs.foldl (fun F Fd => clF le lv F (lnW le lv [] Fd)) F
theorem cyc_len (x : List Nat) : ∀ m at0, (cyc x at0 m).length = m
  | 0, _ => rfl
  | m + 1, at0 => by unfold cyc; rw [List.length_cons, cyc_len x m]
theorem cyc_drop (x : List Nat) : ∀ m at0, at0 + m ≤ x.length → cyc x at0 m = (x.drop at0).take m
  | 0, at0, _ => by unfold cyc; rw [List.take_zero]
  | m + 1, at0, h => by
    unfold cyc
    rw [drop_cons (gD (d := 0) (show at0 < x.length by omega)), List.take_succ_cons]
    congr 1
    match m with
    | 0 => unfold cyc; rw [List.take_zero]
    | m + 1 => rw [if_pos (by omega)]; exact cyc_drop x (m + 1) (at0 + 1) (by omega)
theorem cyc_all {x : List Nat} : cyc x 0 x.length = x := by rw [cyc_drop x _ 0 (by omega), List.drop_zero, List.take_length]
theorem cyc_mem {x : List Nat} : ∀ {m at0 c : Nat}, at0 < x.length → c ∈ cyc x at0 m → c ∈ x
  | 0, _, _, _, h => by unfold cyc at h; cases h
  | m + 1, at0, c, h0, h => by
    unfold cyc at h
    rcases List.mem_cons.mp h with rfl | h
    · exact List.mem_of_getElem? (gD h0)
    · exact cyc_mem (by split <;> omega) h
theorem pPut_mem {le a c : Nat} {lv C : List Nat} (h : c ∈ pPut le lv C a) : c ∈ C ∨ c = a := by
  unfold pPut at h
  split at h
  · exact Or.inl h
  · rcases List.mem_append.mp h with h | h
    · exact Or.inl h
    · exact Or.inr (List.mem_singleton.mp h)
theorem pPut_len {le a : Nat} {lv C : List Nat} : (pPut le lv C a).length ≤ C.length + 1 := by
  unfold pPut
  split
  · omega
  · rw [List.length_append]; exact Nat.le_refl _
theorem putL_mem {le : Nat} {lv : List Nat} : ∀ {l C : List Nat} {c : Nat}, c ∈ putL le lv C l → c ∈ C ∨ c ∈ l
  | [], C, c, h => Or.inl h
  | a :: l, C, c, h => by
    rcases putL_mem (l := l) (C := pPut le lv C a) h with h | h
    · rcases pPut_mem h with h | h
      · exact Or.inl h
      · exact Or.inr (by rw [h]; exact List.mem_cons_self)
    · exact Or.inr (List.mem_cons_of_mem _ h)
theorem putL_len {le : Nat} {lv : List Nat} : ∀ {l C : List Nat}, (putL le lv C l).length ≤ C.length + l.length
  | [], C => Nat.le_refl _
  | a :: l, C => by
    have h1 := putL_len (le := le) (lv := lv) (l := l) (C := pPut le lv C a)
    have h2 := pPut_len (le := le) (a := a) (lv := lv) (C := C)
    have e : putL le lv C (a :: l) = putL le lv (pPut le lv C a) l := rfl
    rw [e, List.length_cons]
    omega
theorem pPut_0 {lv C : List Nat} {a : Nat} : pPut 0 lv C a = C ++ [a] := by unfold pPut; rw [if_neg (by omega)]
theorem putL_0 {lv : List Nat} : ∀ {l C : List Nat}, putL 0 lv C l = C ++ l
  | [], C => (List.append_nil C).symm
  | a :: l, C => by
    have e : putL 0 lv C (a :: l) = putL 0 lv (pPut 0 lv C a) l := rfl
    rw [e, pPut_0, putL_0, List.append_assoc]
    rfl
theorem clW_0 {X : List (List Nat)} {C : List Nat} : clW 0 X C = X ++ [C] := by unfold clW; rw [if_neg (by omega)]
theorem lnW_0 {lv : List Nat} : ∀ {Fd X : List (List Nat)}, lnW 0 lv X Fd = X ++ Fd
  | [], X => (List.append_nil X).symm
  | x :: Fd, X => by
    have e : lnW 0 lv X (x :: Fd) = lnW 0 lv (clW 0 X (putL 0 lv [] x)) Fd := rfl
    rw [e, clW_0, putL_0, lnW_0, List.append_assoc]
    rfl
theorem clF_0 {lv : List Nat} {F : List (List (List Nat))} {X : List (List Nat)} : clF 0 lv F X = F ++ [X] := by unfold clF; rw [if_neg (by omega)]
theorem lnP_0 {lv : List Nat} : ∀ {fs F : List (List (List Nat))}, lnP 0 lv F fs = F ++ fs
  | [], F => (List.append_nil F).symm
  | x :: fs, F => by
    have e : lnP 0 lv F (x :: fs) = lnP 0 lv (clF 0 lv F (lnW 0 lv [] x)) fs := rfl
    rw [e, clF_0, lnW_0, lnP_0, List.append_assoc]
    rfl
theorem clW_len {le : Nat} {X : List (List Nat)} {C : List Nat} : (clW le X C).length ≤ X.length + 1 ∧ (clW le X C).flatten.length ≤ X.flatten.length + C.length := by
  have h := pC1_len (C := C)
  unfold clW
  split
  · split
    · omega
    · rw [List.length_append, List.flatten_append, List.length_append]
      simp only [List.length_cons, List.length_nil, List.flatten_cons, List.flatten_nil, List.append_nil]
      omega
  · rw [List.length_append, List.flatten_append, List.length_append]
    simp only [List.length_cons, List.length_nil, List.flatten_cons, List.flatten_nil, List.append_nil]
    omega
theorem clW_mem {le c : Nat} {X : List (List Nat)} {C : List Nat} (h : c ∈ (clW le X C).flatten) : c ∈ X.flatten ∨ c ∈ C := by
  have key : ∀ C2 : List Nat, (∀ y ∈ C2, y ∈ C) → c ∈ (X ++ [C2]).flatten → c ∈ X.flatten ∨ c ∈ C := by
    intro C2 hs q
    rw [List.flatten_append, List.mem_append] at q
    rcases q with q | q
    · exact Or.inl q
    · simp only [List.flatten_cons, List.flatten_nil, List.append_nil] at q
      exact Or.inr (hs c q)
  unfold clW at h
  split at h
  · split at h
    · exact Or.inl h
    · refine key _ (fun y hy => ?_) h
      unfold pC1 at hy
      split at hy
      · exact (List.dropLast_sublist C).subset hy
      · exact hy
  · exact key _ (fun y hy => hy) h
section POS
variable {sc : ipSc} {d z b le pc q le2 pc2 : Nat} {h : HP} {lv : List Nat} {F : List (List (List Nat))} {X : List (List Nat)} {C : List Nat} {P : PosT}
def ap5 (b q : Nat) : Prop := q + 5 ≤ b ∨ b + 5 ≤ q
theorem t_putRound (H : pbIs h b le pc (lv, F, X, C)) (HQ : plIs h q le2 pc2 P) (hd : ap5 b q) {w from0 many : Nat} {x : List Nat} (hw : (pW P)[w]? = some x) (hfr : from0 < x.length) (hx : ∀ c ∈ x, c < lv.length) (hlv : ∀ v ∈ lv, v ≤ 3) (hC : ∀ c ∈ C, c < lv.length) (hb : (bC (lv, F, X, C)).length + many ≤ 100) : ipC sc (d + 2) 57 [.ref b, .ref q, .int (nI w), .int (nI from0), .int (nI many)] h z 0 0 (qB h b z (fun h2 => pbIs h2 b le pc (lv, F, X, putL le lv C (cyc x from0 many)))) := by
  have HQ0 := HQ
  obtain ⟨-, sa, wf, ff, lf, ⟨s1, s2, s3, s4, s5⟩, r1, r2, r3, r4, k1, k2, k3, k4⟩ := HQ
  rw [bW_c] at k2 r3
  rw [bC_c] at k1 r2
  have hw2 : P.2.flatten[w]? = some x := hw
  have hlw := lt_some hw2
  have hxl : lSt P.2.flatten w + x.length ≤ 100 := by
    have e1 := lSt_s hw2
    have e2 := lSt_le (l := P.2.flatten) (f := w + 1)
    omega
  refine ipC_mk [some (.ref b), some (.ref q), some (.int (nI w)), some (.int (nI from0)), some (.int (nI many)), none, none, none, none] rfl (Nat.le_of_ble_eq_true rfl) ?_
  refine c57_0 s1 rfl s3 (by omega) (by decide) (r3 w (by omega)) (Nat.zero_le _) (Nat.zero_le _) (t_size HQ0 hw) (kI (c57_13 ?_))
  have loop : ∀ n k at0 C1 h1, k + n = many → at0 < x.length → frm b 5 h h1 → pbIs h1 b le pc (lv, F, X, C1) → (∀ c ∈ C1, c < lv.length) → (bC (lv, F, X, C1)).length + n ≤ 100 → putL le lv C1 (cyc x at0 n) = putL le lv C (cyc x from0 many) → ip sc (ipC sc (d + 1)) 57 0 0 (qB h b z (fun h2 => pbIs h2 b le pc (lv, F, X, putL le lv C (cyc x from0 many)))) 21 [some (.ref b), some (.ref q), some (.int (nI w)), some (.int (nI from0)), some (.int (nI many)), some (.int (nI (lSt P.2.flatten w))), some (.int (nI x.length)), some (.int (nI at0)), some (.int (nI k))] [] h1 z 0 0 := by
    intro n
    induction n with
    | zero =>
      intro k at0 C1 h1 hk ha hf H1 hC1 hb1 e
      refine c57_21 (by omega) (by omega) (fun _ => c57_67 ⟨rfl, rfl, hf, ?_⟩) (fun r => absurd (show many ≤ k by omega) r)
      rw [← e]
      exact H1
    | succ n ih =>
      intro k at0 C1 h1 hk ha hf H1 hC1 hb1 e
      refine c57_21 (by omega) (by omega) (fun r => absurd r (by omega)) (fun _ => ?_)
      have hay := gD (d := 0) ha
      have hbc : P.2.flatten.flatten[lSt P.2.flatten w + at0]? = some (x.getD at0 0) := lSt_at hw2 hay
      have hq : ∀ y, q ≤ y → y < q + 5 → h1 y = h y := fun y h1 h2 => hf y (by unfold ap5 at hd; omega)
      have hal := hx _ (List.mem_of_getElem? hay)
      have hlg := gD (d := 0) hal
      have Hs := H1
      obtain ⟨-, sa1, wf1, ff1, lf1, hs1, -⟩ := Hs
      refine c57_28 ((hq q (by omega) (by omega)).trans s1) rfl ((hq (q + 1) (by omega) (by omega)).trans s2) (by omega) (by decide) (rowL_at r2 hbc) hs1.1 (Nat.zero_le _) (Nat.zero_le _) (t_put H1 hlg (hlv _ (List.mem_of_getElem? hlg)) hC1 (by omega)) (kB fun h2 hf2 H2 => ?_)
      have hl2 := pPut_len (le := le) (a := x.getD at0 0) (lv := lv) (C := C1)
      have go : ∀ at2, at2 = (if at0 + 1 < x.length then at0 + 1 else 0) → ip sc (ipC sc (d + 1)) 57 0 0 (qB h b z (fun h2 => pbIs h2 b le pc (lv, F, X, putL le lv C (cyc x from0 many)))) 59 [some (.ref b), some (.ref q), some (.int (nI w)), some (.int (nI from0)), some (.int (nI many)), some (.int (nI (lSt P.2.flatten w))), some (.int (nI x.length)), some (.int (nI at0)), some (.int (nI k))] [.int (nI at2)] h2 z 0 0 := by
        intro at2 e2
        refine c57_59 (ih (k + 1) at2 _ h2 (by omega) ?_ (hf.tr hf2) H2 ?_ ?_ ?_)
        · rw [e2]; split <;> omega
        · intro c hc
          rcases pPut_mem hc with hc | hc
          · exact hC1 c hc
          · rw [hc]; exact hal
        · have e3 := bC_len (lv := lv) (F := F) (X := X) (C := C1)
          have e4 := bC_len (lv := lv) (F := F) (X := X) (C := pPut le lv C1 (x.getD at0 0))
          have e5 : bW (lv, F, X, C1) = bW (lv, F, X, pPut le lv C1 (x.getD at0 0)) := rfl
          rw [e5] at e3
          omega
        · rw [← e, e2]
          rfl
      refine c57_42 (by omega) (by omega) (fun r => c57_58 ?_) (fun r => c57_51 ?_)
      · exact go 0 (if_neg (by omega)).symm
      · exact go (at0 + 1) (if_pos (by omega)).symm
  exact loop many 0 from0 C h (by omega) hfr frm.rf H hC hb rfl
theorem t_putField (H : pbIs h b le pc (lv, F, [], [])) (HQ : plIs h q le2 pc2 P) (hd : ap5 b q) {f : Nat} {Fd : List (List Nat)} (hf : P.2[f]? = some Fd) (hne : ∀ x ∈ Fd, x ≠ []) (hx : ∀ c ∈ Fd.flatten, c < lv.length) (hlv : ∀ v ∈ lv, v ≤ 3) (hb1 : F.flatten.flatten.length + Fd.flatten.length ≤ 100) (hb2 : F.flatten.length + Fd.length ≤ 31) (hb3 : F.length + 1 ≤ 24) : ipC sc (d + 3) 56 [.ref b, .ref q, .int (nI f)] h z 0 0 (qB h b z (fun h2 => pbIs h2 b le pc (lv, clF le lv F (lnW le lv [] Fd), [], []))) := by
  have HQ0 := HQ
  obtain ⟨-, sa, wf, ff, lf, ⟨s1, s2, s3, s4, s5⟩, r1, r2, r3, r4, k1, k2, k3, k4⟩ := HQ
  simp only at k3 r4
  rw [bW_c] at k2
  have hlf := lt_some hf
  have hs := lSt_s hf
  have hle2 := lSt_le (l := P.2) (f := f + 1)
  have hdd : ∀ h1, frm b 5 h h1 → ∀ y, q ≤ y → y < q + 5 → h1 y = h y := fun h1 hf y e1 e2 => hf y (by unfold ap5 at hd; omega)
  refine ipC_mk [some (.ref b), some (.ref q), some (.int (nI f)), none] rfl (Nat.le_of_ble_eq_true rfl) ?_
  refine c56_0 s1 rfl s4 (by omega) (by decide) (r4 f (by omega)) ?_
  have loop : ∀ n k X1 h1, k + n = Fd.length → frm b 5 h h1 → pbIs h1 b le pc (lv, F, X1, []) → lnW le lv X1 (Fd.drop k) = lnW le lv [] Fd → X1.length ≤ k → X1.flatten.length + (Fd.drop k).flatten.length ≤ Fd.flatten.length → (∀ c ∈ X1.flatten, c < lv.length) → ip sc (ipC sc (d + 2)) 56 0 0 (qB h b z (fun h2 => pbIs h2 b le pc (lv, clF le lv F (lnW le lv [] Fd), [], []))) 7 [some (.ref b), some (.ref q), some (.int (nI f)), some (.int (nI (lSt P.2 f + k)))] [] h1 z 0 0 := by
    intro n
    induction n with
    | zero =>
      intro k X1 h1 hk hf1 H1 e hl hl2 hm
      have hq := hdd h1 hf1
      refine c56_7 ((hq q (by omega) (by omega)).trans s1) rfl ((hq (q + 3) (by omega) (by omega)).trans s4) (by omega) (by decide) (r4 (f + 1) (by omega)) (by omega) (by omega) (fun _ => ?_) (fun r => absurd (show _ ≤ _ by omega) r)
      rw [List.drop_eq_nil_of_le (by omega)] at e
      have e : X1 = lnW le lv [] Fd := e
      have Hs := H1
      obtain ⟨-, sa1, wf1, ff1, lf1, hs1, -⟩ := Hs
      refine c56_41 hs1.1 (Nat.zero_le _) (Nat.zero_le _) (t_closeField H1 hm hlv hb3) (kB fun h2 hf2 H2 => c56_45 ⟨rfl, rfl, hf1.tr hf2, ?_⟩)
      rw [← e]
      exact H2
    | succ n ih =>
      intro k X1 h1 hk hf1 H1 e hl hl2 hm
      have hq := hdd h1 hf1
      have HQ1 := HQ0.off hq
      obtain ⟨x, hx0⟩ := gt_some (l := Fd) (i := k) (by omega)
      have hxm := List.mem_of_getElem? hx0
      have hxne : 0 < x.length := List.length_pos_iff.mpr (hne x hxm)
      have hw : (pW P)[lSt P.2 f + k]? = some x := lSt_at hf hx0
      rw [drop_cons hx0] at e hl2
      rw [List.flatten_cons, List.length_append] at hl2
      have hxc : ∀ c ∈ x, c < lv.length := fun c hc => hx c (List.mem_flatten.mpr ⟨x, hxm, hc⟩)
      refine c56_7 ((hq q (by omega) (by omega)).trans s1) rfl ((hq (q + 3) (by omega) (by omega)).trans s4) (by omega) (by decide) (r4 (f + 1) (by omega)) (by omega) (by omega) (fun r => absurd r (by omega)) (fun _ => ?_)
      have Hs := H1
      obtain ⟨-, sa1, wf1, ff1, lf1, hs1, -⟩ := Hs
      have ebc : (bC (lv, F, X1, [])).length = F.flatten.flatten.length + X1.flatten.length := by unfold bC bW; simp
      refine c56_19 ((hq q (by omega) (by omega)).trans s1) (Nat.zero_le _) (Nat.zero_le _) (t_size HQ1 hw) (kI ?_)
      refine c56_28 hs1.1 (Nat.zero_le _) (Nat.zero_le _) (t_putRound H1 HQ1 hd hw hxne hxc hlv (fun c hc => by cases hc) (by omega)) (kB fun h2 hf2 H2 => ?_)
      rw [cyc_all] at H2
      have Hs := H2
      obtain ⟨-, sa2, wf2, ff2, lf2, hs2, -⟩ := Hs
      have hpm : ∀ c ∈ putL le lv [] x, c < lv.length := fun c hc => by
        rcases putL_mem hc with hc | hc
        · cases hc
        · exact hxc c hc
      have ebw : (bW (lv, F, X1, putL le lv [] x)).length = F.flatten.length + X1.length := by unfold bW; rw [List.length_append]
      refine c56_31 hs2.1 (Nat.zero_le _) (Nat.zero_le _) (t_closeWall H2 hpm (by omega)) (kB fun h3 hf3 H3 => c56_35 ?_)
      have hcw := clW_len (le := le) (X := X1) (C := putL le lv [] x)
      have hpl := putL_len (le := le) (lv := lv) (l := x) (C := [])
      rw [List.length_nil] at hpl
      refine ih (k + 1) (clW le X1 (putL le lv [] x)) h3 (by omega) ((hf1.tr hf2).tr hf3) H3 e (by omega) (by omega) (fun c hc => ?_)
      rcases clW_mem hc with hc | hc
      · exact hm c hc
      · exact hpm c hc
  have := loop Fd.length 0 [] h (by omega) frm.rf H rfl (by decide) (by rw [List.drop_zero]; exact Nat.le_of_eq (Nat.zero_add _)) (fun c hc => by cases hc)
  exact this
end POS
