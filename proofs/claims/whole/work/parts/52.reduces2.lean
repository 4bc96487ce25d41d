/-! the reference's reduces: its code -/
theorem take_fl2 {α : Type} {l : List (List α)} {f k : Nat} {x : List α} (h : l[f]? = some x) (hk : k ≤ x.length) : l.flatten.take (lSt l f + k) = (l.take f).flatten ++ x.take k := by
  obtain ⟨l1, l2, rfl, rfl⟩ := split_at h
  unfold lSt
  rw [List.take_left, List.flatten_append, List.flatten_cons, List.take_append, List.take_of_length_le (by omega), show l1.flatten.length + k - l1.flatten.length = k by omega, List.take_append_of_le_length hk]
theorem rdW_len {L : List Nat} {Fd : List (List Nat)} : (rdW L Fd).length ≤ Fd.length ∧ (rdW L Fd).flatten.length ≤ Fd.flatten.length := by
  constructor
  · unfold rdW
    refine Nat.le_trans (List.length_filter_le _ _) ?_
    rw [List.length_map]
    exact Nat.le_refl _
  · rw [rdW_c]
    exact List.length_filter_le _ _
theorem rdP_len {L : List Nat} {F : List (List (List Nat))} : (rdP L F).length ≤ F.length ∧ (rdP L F).flatten.length ≤ F.flatten.length ∧ (rdP L F).flatten.flatten.length ≤ F.flatten.flatten.length := by
  refine ⟨?_, ?_, ?_⟩
  · unfold rdP
    refine Nat.le_trans (List.length_filter_le _ _) ?_
    rw [List.length_map]
    exact Nat.le_refl _
  · rw [rdP_w]
    exact rdW_len.1
  · rw [rdP_w]
    exact rdW_len.2
theorem rdW_s {L : List Nat} {Fd : List (List Nat)} {k : Nat} {x : List Nat} (h : Fd[k]? = some x) : rdW L (Fd.take (k + 1)) = if x.filter (lvF L) = [] then rdW L (Fd.take k) else rdW L (Fd.take k) ++ [x.filter (lvF L)] := by
  unfold rdW
  rw [List.take_succ, h, List.map_append, List.filter_append]
  split
  · rename_i e
    simp [e]
  · rename_i e
    simp [e]
theorem rdP_s {L : List Nat} {F : List (List (List Nat))} {k : Nat} {X : List (List Nat)} (h : F[k]? = some X) : rdP L (F.take (k + 1)) = if rdW L X = [] then rdP L (F.take k) else rdP L (F.take k) ++ [rdW L X] := by
  unfold rdP
  rw [List.take_succ, h, List.map_append, List.filter_append]
  split
  · rename_i e
    simp [e]
  · rename_i e
    simp [e]
theorem filt_s {L x : List Nat} {i s : Nat} (h : x[i]? = some s) : (x.take (i + 1)).filter (lvF L) = (x.take i).filter (lvF L) ++ (if lvF L s = true then [s] else []) := by
  rw [List.take_succ, h, List.filter_append]
  congr 1
  simp only [Option.toList_some, List.filter_cons, List.filter_nil]
theorem wall_len {P : PosT} (hB : rowB P) {w : Nat} {x : List Nat} (h : (pW P)[w]? = some x) : x.length ≤ 200 := by
  have e1 := lSt_s h
  have e2 := lSt_le (l := pW P) (f := w + 1)
  have e3 := hB.2.2.2
  have e4 : (pW P).flatten.length = (pC P).length := rfl
  omega
section REF
variable {sc : ipSc} {d z M p q : Nat} {h : HP} {kn ms kz : Int32} {t : Cur} {al : Nat → Int32} {P : PosT} {F : List (List (List Nat))} {X : List (List Nat)} {C D : List Nat} {a pf : Nat → Int32} {Q : ipQ}
theorem rd_corner (H : mdA h M (mFs M kn t ms kz) al) (hd : far p q) (hP : P.1.length ≤ 32) {s w at0 f k n i : Nat} {o6 o8 : Option Value} (hs : s < P.1.length) (hb : F.flatten.flatten.length + (X.flatten.length + C.length) + 1 ≤ 200) (S : rdS al p q P a pf D (F ++ [X ++ [C]]))
    (K : ∀ a2 pf2 D2, rdS al p q P a2 pf2 D2 (F ++ [X ++ [C ++ [s]]]) → ip sc (ipC sc (d + 1)) 136 0 0 Q 237 [some (.ref M), some (.int (nI p)), some (.int (nI q)), some (.int (nI w)), some (.int (nI at0)), some (.int (nI f)), some (.int (nI 1)), some (.int (nI k)), some (.int (nI 1)), some (.int (nI n)), some (.int (nI i)), some (.int (nI s))] [] (mA (mP h M pf2) M a2) z 0 0) :
    ip sc (ipC sc (d + 1)) 136 0 0 Q 155 [some (.ref M), some (.int (nI p)), some (.int (nI q)), some (.int (nI w)), some (.int (nI at0)), some (.int (nI f)), o6, some (.int (nI k)), o8, some (.int (nI n)), some (.int (nI i)), some (.int (nI s))] [] (mA (mP h M pf) M a) z 0 0 := by
  have h1 := hd.2.1
  have h2 := hd.2.2
  have H2 : ∀ pf2 a2, mdA (mA (mP h M pf2) M a2) M (mFs M kn t ms kz) a2 := fun pf2 a2 => H.pp.put
  obtain ⟨B, k1, k2, k3, k4⟩ := id S
  have hps := k1 s hs
  have hDl := nodup_len k2 k3
  have cl : (nI s).toNatClampNeg = s := nI_clamp (by omega)
  refine b136_155 (H2 _ _).1 rfl mP_at (vp_in_nI (by omega) (by decide)) (fun r => ?_) (fun r => ?_)
  · rw [cl, hps] at r
    by_cases m : s ∈ D
    · rw [if_pos m] at hps
      refine c136_225 (a_6 := 1) (a_8 := 1) (H2 _ _).1 rfl mP_at (by omega) (by decide) hps (Nat.zero_le _) (Nat.zero_le _) (t_addCorner (F := ren (fun s => D.idxOf s) F) (X := X.map (List.map (fun s => D.idxOf s))) (C := C.map (fun s => D.idxOf s)) (H2 _ _) h2 (by rw [← cn_X]; exact B.2.1) (by rw [ren_l3, map_l, List.length_map]; exact hb) _) (kW fun a2 h3 => ?_)
      rw [mA_mA]
      exact K a2 pf D (S.old hd m h3)
    · rw [if_neg m] at r
      exact absurd r (by decide)
  · rw [cl, hps] at r
    by_cases m : s ∈ D
    · rw [if_pos m] at r
      exact absurd (nI_le (a := 0) (Nat.zero_le _) (Nat.lt_of_lt_of_le (List.idxOf_lt_length_of_mem m) (by omega))) r
    · have hDl2 : D.length + 1 ≤ 32 := by
        have : (D ++ [s]).length ≤ P.1.length := nodup_len (List.nodup_append.mpr ⟨k2, by simp, fun x hx y hy q => m (by rw [List.mem_singleton.mp hy] at q; exact q ▸ hx)⟩) (fun x hx => by
          rcases List.mem_append.mp hx with r | r
          · exact k3 x r
          · rw [List.mem_singleton.mp r]; exact hs)
        rw [List.length_append] at this
        have e : [s].length = 1 := rfl
        omega
      have hrow := B.2.1
      rw [cn_X] at hrow
      have hlv : (D.map (fun s => P.1.getD s 0)).length = D.length := List.length_map _
      have hq0 : a (q + 0) = nI D.length := by rw [← hlv]; exact hrow.1.1
      have hls : a (p + 4 + s) = nI (P.1.getD s 0) := B.1.li (gD hs)
      have hr2 := row_spot (l := P.1.getD s 0) hrow (by rw [hlv]; exact hDl2)
      rw [hlv] at hr2
      refine c136_171 (a_6 := 1) (a_8 := 1) (H2 _ _).1 rfl rfl (H2 _ _).2.2 (by omega) (by decide) hq0 mP_at (by omega) (by decide) rfl (by omega) (v20 := D.length) pk_us (by omega) (by omega) hls (by omega) rfl (by omega) (v30 := D.length) (by rw [pk_un (by omega)]; exact hq0) rfl ?_
      rw [mP_put]
      have em : hup (mA (mP h M (upd pf s (nI D.length))) M a) (M + 1) (.inl (0, 52000, .inl (upd (upd a (q + 4 + D.length) (nI (P.1.getD s 0))) (q + 0) (nI (D.length + 1))))) = mA (mP h M (upd pf s (nI D.length))) M (upd (upd a (q + 4 + D.length) (nI (P.1.getD s 0))) (q + 0) (nI (D.length + 1))) := mA_mA
      rw [em]
      refine c136_225 (H2 _ _).1 rfl mP_at (by omega) (by decide) (v9 := D.length) pk_us (Nat.zero_le _) (Nat.zero_le _) (t_addCorner (F := ren (fun s => D.idxOf s) F) (X := X.map (List.map (fun s => D.idxOf s))) (C := C.map (fun s => D.idxOf s)) (H2 _ _) h2 hr2 (by rw [ren_l3, map_l, List.length_map]; exact hb) _) (kW fun a2 h3 => ?_)
      rw [mA_mA]
      refine K a2 _ (D ++ [s]) (S.new hd m hs ⟨?_, ?_⟩)
      · rw [List.map_append]
        exact h3.1
      · exact eqOff.tr ((eqOff.rf.up (by omega)).up (by omega)) h3.2
theorem rd_flags (H : mdA h M (mFs M kn t ms kz) al) (hd : far p q) {s w at0 f k n i : Nat} (hF : F.length + 1 ≤ 32) (hX : F.flatten.length + X.length + 1 ≤ 64) (S : rdS al p q P a pf D (fin F X C))
    (K : ∀ a2 o6 o8, rdS al p q P a2 pf D (F ++ [X ++ [C]]) → ip sc (ipC sc (d + 1)) 136 0 0 Q 155 [some (.ref M), some (.int (nI p)), some (.int (nI q)), some (.int (nI w)), some (.int (nI at0)), some (.int (nI f)), o6, some (.int (nI k)), o8, some (.int (nI n)), some (.int (nI i)), some (.int (nI s))] [] (mA (mP h M pf) M a2) z 0 0) :
    ip sc (ipC sc (d + 1)) 136 0 0 Q 135 [some (.ref M), some (.int (nI p)), some (.int (nI q)), some (.int (nI w)), some (.int (nI at0)), some (.int (nI f)), some (.int (nI (flX X C))), some (.int (nI k)), some (.int (nI (flC C))), some (.int (nI n)), some (.int (nI i)), some (.int (nI s))] [] (mA (mP h M pf) M a) z 0 0 := by
  have h2 := hd.2.2
  have H2 : ∀ pf2 a2, mdA (mA (mP h M pf2) M a2) M (mFs M kn t ms kz) a2 := fun pf2 a2 => H.pp.put
  obtain ⟨B, k1, k2, k3, k4⟩ := id S
  have f1 : flX X C ≤ 1 := by unfold flX; split <;> omega
  have f2 : flC C ≤ 1 := by unfold flC; split <;> omega
  -- behind the field
  have step2 : ∀ a1, C = [] → rdS al p q P a1 pf D (F ++ [X]) → ip sc (ipC sc (d + 1)) 136 0 0 Q 145 [some (.ref M), some (.int (nI p)), some (.int (nI q)), some (.int (nI w)), some (.int (nI at0)), some (.int (nI f)), some (.int (nI (flX X C))), some (.int (nI k)), some (.int (nI (flC C))), some (.int (nI n)), some (.int (nI i)), some (.int (nI s))] [] (mA (mP h M pf) M a1) z 0 0 := by
    intro a1 hC S1
    have e : flC C = 0 := if_pos hC
    refine c136_145 (by omega) (fun r => absurd e r) (fun _ => ?_)
    refine c136_150 (H2 _ _).1 (Nat.zero_le _) (Nat.zero_le _) (t_addWall (F := ren (fun s => D.idxOf s) F) (X := X.map (List.map (fun s => D.idxOf s))) (H2 _ _) h2 (by rw [← cn_F]; exact S1.1.2.1) (by rw [ren_l2, List.length_map]; exact hX)) (kW fun a2 h3 => ?_)
    rw [mA_mA]
    refine K a2 _ _ ?_
    obtain ⟨B1, q1, q2, q3, q4⟩ := S1
    refine ⟨B1.nx hd ⟨?_, h3.2⟩, q1, q2, q3, fun x => ?_⟩
    · rw [cn_X, hC]
      exact h3.1
    · rw [← q4 x, hC]
      simp
  by_cases hC : C = []
  · by_cases hXe : X = []
    · have e : flX X C = 0 := if_pos ⟨hXe, hC⟩
      have hfin : fin F X C = F := by unfold fin; rw [if_pos hC, if_pos hXe]
      rw [hfin] at B k4
      refine c136_135 (by omega) (fun r => absurd e r) (fun _ => ?_)
      refine c136_140 (H2 _ _).1 (Nat.zero_le _) (Nat.zero_le _) (t_addField (F := ren (fun s => D.idxOf s) F) (H2 _ _) h2 B.2.1 (by rw [ren_l1]; exact hF)) (kW fun a2 h3 => ?_)
      rw [mA_mA]
      refine step2 a2 hC ⟨B.nx hd ⟨?_, h3.2⟩, k1, k2, k3, fun x => ?_⟩
      · rw [cn_F, hXe]
        exact h3.1
      · rw [← k4 x, hXe]
        simp
    · have e : flX X C = 1 := if_neg fun r => hXe r.1
      have hfin : fin F X C = F ++ [X] := by unfold fin; rw [if_pos hC, if_neg hXe]
      rw [hfin] at S
      exact c136_135 (by omega) (fun _ => step2 a hC S) (fun r => absurd (by omega) r)
  · have e : flX X C = 1 := if_neg fun r => hC r.2
    have e2 : flC C = 1 := if_neg hC
    have hfin : fin F X C = F ++ [X ++ [C]] := by unfold fin; rw [if_neg hC]
    rw [hfin] at S
    exact c136_135 (by omega) (fun _ => c136_145 (by omega) (fun _ => K a _ _ S) (fun r => absurd (by omega) r)) (fun r => absurd (by omega) r)
def rdQ (h : HP) (M z : Nat) (al : Nat → Int32) (p q : Nat) (P : PosT) : ipQ := fun o h2 z2 => o = none ∧ z2 = z ∧ ∃ al2 pf2 D, h2 = mA (mP h M pf2) M al2 ∧ rdS al p q P al2 pf2 D (rdP P.1 P.2)
set_option maxHeartbeats 1000000 in
theorem t_reduces (H : mdA h M (mFs M kn t ms kz) al) (Hp : h (M + 6) = some (.inl (0, 32, .inl pf))) (HR : rowIs al p P) (hd : far p q) (hok : posOK P) : ipC sc (d + 2) 136 [.ref M, .int (nI p), .int (nI q)] h z 0 0 (rdQ h M z al p q P) := by
  have h1 := hd.2.1
  have h2 := hd.2.2
  have hB := HR.2.2.2.2.2
  have b1 := hB.1
  have b2 := hB.2.1
  have b3 := hB.2.2.1
  have b4 := hB.2.2.2
  have H2 : ∀ pf2 a2, mdA (mA (mP h M pf2) M a2) M (mFs M kn t ms kz) a2 := fun pf2 a2 => H.pp.put
  refine ipC_mk [some (.ref M), some (.int (nI p)), some (.int (nI q)), none, none, none, none, none, none, none, none, none] rfl (Nat.le_of_ble_eq_true rfl) ?_
  refine c136_0 H.1 (Nat.zero_le _) (Nat.zero_le _) (t_clear H h2) (kW fun a0 ⟨r0, o0⟩ => c136_5 ?_)
  have hz : mA h M a0 = mA (mP h M pf) M a0 := by rw [mP_self Hp]
  rw [hz]
  have B0 : bst al a0 p q P ([], []) := ⟨HR.offq o0 hd.1, r0, o0⟩
  -- the corners of a wall
  have loopC : ∀ (m i f k w : Nat) (x : List Nat) (F : List (List (List Nat))) (Fd X : List (List Nat)) (a pf : Nat → Int32) (D : List Nat), P.2[f]? = some Fd → Fd[k]? = some x → w = lSt P.2 f + k → F = rdP P.1 (P.2.take f) → X = rdW P.1 (Fd.take k) → i + m = x.length → rdS al p q P a pf D (fin F X ((x.take i).filter (lvF P.1))) → (∀ a2 pf2 D2, rdS al p q P a2 pf2 D2 (fin F X (x.filter (lvF P.1))) → ∀ o8 o10 o11, ip sc (ipC sc (d + 1)) 136 0 0 (rdQ h M z al p q P) 243 [some (.ref M), some (.int (nI p)), some (.int (nI q)), some (.int (nI w)), some (.int (nI (p + 132 + lSt (pW P) w))), some (.int (nI f)), some (.int (nI (flX X (x.filter (lvF P.1))))), some (.int (nI k)), o8, some (.int (nI x.length)), o10, o11] [] (mA (mP h M pf2) M a2) z 0 0) → ∀ o11, ip sc (ipC sc (d + 1)) 136 0 0 (rdQ h M z al p q P) 99 [some (.ref M), some (.int (nI p)), some (.int (nI q)), some (.int (nI w)), some (.int (nI (p + 132 + lSt (pW P) w))), some (.int (nI f)), some (.int (nI (flX X ((x.take i).filter (lvF P.1))))), some (.int (nI k)), some (.int (nI (flC ((x.take i).filter (lvF P.1))))), some (.int (nI x.length)), some (.int (nI i)), o11] [] (mA (mP h M pf) M a) z 0 0 := by
    intro m
    induction m with
    | zero =>
      intro i f k w x F Fd X a pf D hf hk hw hF hX him S K o11
      have hxl : x.length ≤ 200 := wall_len hB (lSt_at hf hk)
      refine c136_99 (by omega) (by omega) (fun _ => ?_) (fun r => absurd (by omega) r)
      have e : x.take i = x := List.take_of_length_le (by omega)
      rw [e] at S ⊢
      exact K _ _ _ S _ _ _
    | succ m ih =>
      intro i f k w x F Fd X a pf D hf hk hw hF hX him S K o11
      have hxl : x.length ≤ 200 := wall_len hB (lSt_at hf hk)
      have hwx : (pW P)[w]? = some x := by rw [hw]; exact lSt_at hf hk
      obtain ⟨s, hs⟩ := gt_some (l := x) (i := i) (by omega)
      have hco : (pC P)[lSt (pW P) w + i]? = some s := lSt_at hwx hs
      have hcl := lt_some hco
      have hsl : s < P.1.length := hok.1 s (List.mem_of_getElem? hco)
      have hls : a (p + 4 + s) = nI (P.1.getD s 0) := S.1.1.li (gD hsl)
      have hl3 := posOK_le hok s
      have hca : a (p + 132 + lSt (pW P) w + i) = nI s := by rw [Nat.add_assoc (p + 132)]; exact S.1.1.co hco
      refine c136_99 (by omega) (by omega) (fun r => absurd r (by omega)) (fun _ => ?_)
      have hfs := filt_s (L := P.1) hs
      refine c136_106 (H2 _ _).1 rfl (H2 _ _).2.2 (by omega) (by decide) hca (by omega) hls (by omega) (fun r => ?_) (fun r => ?_)
      · have elv : lvF P.1 s = true := decide_eq_true (by omega)
        rw [if_pos elv] at hfs
        have hlF := rdP_len (L := P.1) (F := P.2.take f)
        have hlX := rdW_len (L := P.1) (Fd := Fd.take k)
        rw [← hF] at hlF
        rw [← hX] at hlX
        have hwl := lt_some hwx
        have hfl := lt_some hf
        have hkl := lt_some hk
        have et := take_fl2 hf (Nat.le_of_lt hkl)
        have et1 : (P.2.flatten.take (lSt P.2 f + k)).length = lSt P.2 f + k := by
          rw [List.length_take]
          have : P.2.flatten.length = (pW P).length := rfl
          omega
        rw [et, List.length_append] at et1
        have et2 : lSt (pW P) w = (P.2.take f).flatten.flatten.length + (Fd.take k).flatten.length := by
          unfold lSt
          have : (pW P).take w = (P.2.take f).flatten ++ Fd.take k := by rw [hw]; exact et
          rw [this, List.flatten_append, List.length_append]
        have hCl : ((x.take i).filter (lvF P.1)).length ≤ i := Nat.le_trans (List.length_filter_le _ _) (by rw [List.length_take]; omega)
        have hfl2 : (P.2.take f).length ≤ f := by rw [List.length_take]; omega
        refine rd_flags H hd (by omega) (by omega) S (fun a2 o6 o8 S2 => rd_corner H hd b1 hsl (by omega) S2 (fun a3 pf3 D3 S3 => c136_237 ?_))
        have hne : (x.take (i + 1)).filter (lvF P.1) ≠ [] := by rw [hfs]; simp
        have g1 : flX X ((x.take (i + 1)).filter (lvF P.1)) = 1 := if_neg fun r => hne r.2
        have g2 : flC ((x.take (i + 1)).filter (lvF P.1)) = 1 := if_neg hne
        have := ih (i + 1) f k w x F Fd X a3 pf3 D3 hf hk hw hF hX (by omega) (by unfold fin; rw [if_neg hne, hfs]; exact S3) K (some (.int (nI s)))
        rw [g1, g2] at this
        exact this
      · have elv : ¬ lvF P.1 s = true := fun q => r fun e => by
          have := of_decide_eq_true q
          omega
        rw [if_neg elv, List.append_nil] at hfs
        refine c136_132 (c136_237 ?_)
        have := ih (i + 1) f k w x F Fd X a pf D hf hk hw hF hX (by omega) (by rw [hfs]; exact S) K (some (.int (nI s)))
        rw [hfs] at this
        exact this
  -- the walls of a field
  have loopW : ∀ (m f k : Nat) (Fd : List (List Nat)) (F : List (List (List Nat))) (a pf : Nat → Int32) (D : List Nat), P.2[f]? = some Fd → F = rdP P.1 (P.2.take f) → k + m = Fd.length → rdS al p q P a pf D (fin F (rdW P.1 (Fd.take k)) []) → (∀ a2 pf2 D2, rdS al p q P a2 pf2 D2 (fin F (rdW P.1 Fd) []) → ∀ o6 o7 o8 o9 o10 o11, ip sc (ipC sc (d + 1)) 136 0 0 (rdQ h M z al p q P) 259 [some (.ref M), some (.int (nI p)), some (.int (nI q)), some (.int (nI (lSt P.2 f + Fd.length))), some (.int (nI (p + 132 + lSt (pW P) (lSt P.2 f + Fd.length)))), some (.int (nI f)), o6, o7, o8, o9, o10, o11] [] (mA (mP h M pf2) M a2) z 0 0) → ∀ o8 o9 o10 o11, ip sc (ipC sc (d + 1)) 136 0 0 (rdQ h M z al p q P) 63 [some (.ref M), some (.int (nI p)), some (.int (nI q)), some (.int (nI (lSt P.2 f + k))), some (.int (nI (p + 132 + lSt (pW P) (lSt P.2 f + k)))), some (.int (nI f)), some (.int (nI (flX (rdW P.1 (Fd.take k)) []))), some (.int (nI k)), o8, o9, o10, o11] [] (mA (mP h M pf) M a) z 0 0 := by
    intro m
    induction m with
    | zero =>
      intro f k Fd F a pf D hf hF hkm S K o8 o9 o10 o11
      have hfl := lt_some hf
      have hfd : a (p + 36 + f) = nI Fd.length := S.1.1.fl hf
      have hFl : Fd.length ≤ 64 := by have := lSt_s hf; have := lSt_le (l := P.2) (f := f + 1); have : P.2.flatten.length = (pW P).length := rfl; omega
      refine c136_63 (H2 _ _).1 rfl (H2 _ _).2.2 (by omega) (by decide) hfd (by omega) (by omega) (fun _ => ?_) (fun r => absurd (by omega) r)
      have e : Fd.take k = Fd := List.take_of_length_le (by omega)
      have ek : k = Fd.length := by omega
      rw [e] at S
      rw [ek]
      exact K _ _ _ S _ _ _ _ _ _
    | succ m ih =>
      intro f k Fd F a pf D hf hF hkm S K o8 o9 o10 o11
      have hfl := lt_some hf
      have hfd : a (p + 36 + f) = nI Fd.length := S.1.1.fl hf
      have hFl : Fd.length ≤ 64 := by have := lSt_s hf; have := lSt_le (l := P.2) (f := f + 1); have : P.2.flatten.length = (pW P).length := rfl; omega
      obtain ⟨x, hx⟩ := gt_some (l := Fd) (i := k) (by omega)
      have hwx : (pW P)[lSt P.2 f + k]? = some x := lSt_at hf hx
      have hwl := lt_some hwx
      have hxl : x.length ≤ 200 := wall_len hB hwx
      refine c136_63 (H2 _ _).1 rfl (H2 _ _).2.2 (by omega) (by decide) hfd (by omega) (by omega) (fun r => absurd r (by omega)) (fun _ => ?_)
      refine c136_80 (H2 _ _).1 rfl (H2 _ _).2.2 (by omega) (by decide) (S.1.1.wl hwx) ?_
      refine loopC x.length 0 f k (lSt P.2 f + k) x F Fd (rdW P.1 (Fd.take k)) a pf D hf hx rfl hF rfl (by omega) (by rw [List.take_zero]; exact S) (fun a2 pf2 D2 S2 o8 o10 o11 => c136_243 ?_) _
      have e1 : lSt (pW P) (lSt P.2 f + k) + x.length = lSt (pW P) (lSt P.2 f + (k + 1)) := (lSt_s hwx).symm
      have e2 := rdW_s (L := P.1) hx
      have := ih f (k + 1) Fd F a2 pf2 D2 hf hF (by omega) (by rw [e2, fin_n]; exact S2) K o8 (some (.int (nI x.length))) o10 o11
      rw [e2, flX_n, ← e1, ← Nat.add_assoc (p + 132)] at this
      exact this
  -- the fields
  have loopF : ∀ (m f : Nat) (a pf : Nat → Int32) (D : List Nat), f + m = P.2.length → rdS al p q P a pf D (rdP P.1 (P.2.take f)) → ∀ o6 o7 o8 o9 o10 o11, ip sc (ipC sc (d + 1)) 136 0 0 (rdQ h M z al p q P) 44 [some (.ref M), some (.int (nI p)), some (.int (nI q)), some (.int (nI (lSt P.2 f))), some (.int (nI (p + 132 + lSt (pW P) (lSt P.2 f)))), some (.int (nI f)), o6, o7, o8, o9, o10, o11] [] (mA (mP h M pf) M a) z 0 0 := by
    intro m
    induction m with
    | zero =>
      intro f a pf D hfm S o6 o7 o8 o9 o10 o11
      refine c136_44 (H2 _ _).1 rfl (H2 _ _).2.2 (by omega) (by decide) (v9 := P.2.length) S.1.1.1.2.1 (by omega) (by omega) (fun _ => c136_265 ?_) (fun r => absurd (by omega) r)
      have e : P.2.take f = P.2 := List.take_of_length_le (by omega)
      rw [e] at S
      exact ⟨rfl, rfl, a, pf, D, rfl, S⟩
    | succ m ih =>
      intro f a pf D hfm S o6 o7 o8 o9 o10 o11
      obtain ⟨Fd, hf⟩ := gt_some (l := P.2) (i := f) (by omega)
      refine c136_44 (H2 _ _).1 rfl (H2 _ _).2.2 (by omega) (by decide) (v9 := P.2.length) S.1.1.1.2.1 (by omega) (by omega) (fun r => absurd r (by omega)) (fun _ => c136_57 ?_)
      refine loopW Fd.length f 0 Fd _ a pf D hf rfl (by omega) S (fun a2 pf2 D2 S2 o6 o7 o8 o9 o10 o11 => c136_259 ?_) _ _ _ _
      have e2 := rdP_s (L := P.1) hf
      have := ih (f + 1) a2 pf2 D2 (by omega) (by
        rw [e2]
        unfold fin at S2
        rw [if_pos rfl] at S2
        exact S2) o6 o7 o8 o9 o10 o11
      rw [lSt_s hf] at this
      exact this
  -- the numbers are wiped out first
  have loop0 : ∀ (m s : Nat) (pf : Nat → Int32), s + m = P.1.length → (∀ x, x < s → pf x = -1) → ip sc (ipC sc (d + 1)) 136 0 0 (rdQ h M z al p q P) 7 [some (.ref M), some (.int (nI p)), some (.int (nI q)), some (.int (nI s)), none, none, none, none, none, none, none, none] [] (mA (mP h M pf) M a0) z 0 0 := by
    intro m
    induction m with
    | zero =>
      intro s pf hsm hpf
      refine c136_7 (H2 _ _).1 rfl (H2 _ _).2.2 (by omega) (by decide) (v9 := P.1.length) B0.1.1.1 (by omega) (by omega) (fun _ => c136_32 ?_) (fun r => absurd (by omega) r)
      have := loopF P.2.length 0 a0 pf [] (by omega) ⟨B0, fun x hx => (by rw [if_neg (by simp)]; exact hpf x (by omega)), List.nodup_nil, fun x hx => (by cases hx), fun x => (by simp [rdP])⟩ none none none none none none
      rw [lSt_0, lSt_0, Nat.add_zero] at this
      exact this
    | succ m ih =>
      intro s pf hsm hpf
      refine c136_7 (H2 _ _).1 rfl (H2 _ _).2.2 (by omega) (by decide) (v9 := P.1.length) B0.1.1.1 (by omega) (by omega) (fun r => absurd r (by omega)) (fun _ => ?_)
      refine c136_19 (H2 _ _).1 rfl mP_at (by omega) (by decide) rfl ?_
      rw [mP_put]
      refine ih (s + 1) _ (by omega) fun x hx => ?_
      by_cases e : x = s
      · rw [e, pk_us]
      · rw [pk_un e]
        exact hpf x (by omega)
  exact loop0 P.1.length 0 pf (by omega) fun x hx => absurd hx (Nat.not_lt_zero _)
end REF
