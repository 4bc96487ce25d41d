/-! the class's walk over pairs of corners -/
def mM (h : HP) (m : Nat) (t : Cur) (x : Int32) : HP := hup h m (.inr (2, [.int (nI t.1), .int (nI t.2.1), .int (nI t.2.2.1), .int (nI t.2.2.2.1), .int (nI t.2.2.2.2), .int x]))
theorem mM_mM {h : HP} {m : Nat} {t t2 : Cur} {x x2 : Int32} : mM (mM h m t x) m t2 x2 = mM h m t2 x2 := hup_hup
theorem mM_eq {h : HP} {m f u i v j : Nat} {x : Int32} : mM h m (f, u, i, v, j) x m = some (.inr (2, [.int (nI f), .int (nI u), .int (nI i), .int (nI v), .int (nI j), .int x])) := hup_eq
theorem plIs.mM {h : HP} {b le pc m : Nat} {P : PosT} {t : Cur} {x : Int32} (H : plIs h b le pc P) (hm : m < b ∨ b + 5 ≤ m) : plIs (mM h m t x) b le pc P := H.off fun y h1 h2 => hup_ne (by omega) rfl
/-- the pairs of corners that can be joined, from a place on -/
def prs (P : PosT) (t : Cur) : List Cur := (rem P t).filter (canT P)
theorem rem_split {P : PosT} {f u i v j : Nat} (hi : i < wl P f u) : rem P (f, u, i, v, j) = (seqJ f u i v j (wl P f v) ++ remV P f u i (v + 1)) ++ rem P (f, u, i + 1, u, i + 1) := by
  have h1 : wl P f (fl P f) ≤ 0 := by rw [wl_out (Nat.le_refl _)]; exact Nat.le_refl _
  rw [← rem_i (v := fl P f) (j := 0) hi (Nat.le_refl _)]
  unfold rem
  simp only
  rw [if_pos hi, if_pos hi, seqJ_e h1, remV_e (show fl P f ≤ fl P f + 1 by omega)]
  simp only [List.nil_append, List.append_assoc]
section POS
variable {sc : ipSc} {d z b le pc m : Nat} {h : HP} {P : PosT} {xs : Int32}
theorem canT_dead {f u i v j : Nat} {P : PosT} (h : P.1.getD (((P.2.getD f []).getD u []).getD i 0) 0 = 0) : canT P (f, u, i, v, j) = false := by
  unfold canT cM
  simp only
  rw [h, decide_eq_false (by omega)]
  rfl
theorem filt_nil {P : PosT} : ∀ {L : List Cur}, (∀ t ∈ L, canT P t = false) → L.filter (canT P) = []
  | [], _ => rfl
  | t :: L, hh => by
    rw [List.filter_cons, if_neg (by rw [hh t (List.mem_cons_self ..)]; decide)]
    exact filt_nil fun t ht => hh t (List.mem_cons_of_mem _ ht)
theorem seqJ_mem {f u i v j n : Nat} {t : Cur} (h : t ∈ seqJ f u i v j n) : ∃ k, t = (f, u, i, v, k) ∧ j ≤ k ∧ k < n := by
  obtain ⟨k, hk, rfl⟩ := List.mem_map.mp h
  rw [List.mem_range'] at hk
  obtain ⟨q, h1, rfl⟩ := hk
  exact ⟨_, rfl, by omega, by omega⟩
theorem remV_mem {P : PosT} {f u i v : Nat} {t : Cur} (h : t ∈ remV P f u i v) : ∃ k l, t = (f, u, i, k, l) ∧ v ≤ k ∧ k < fl P f ∧ l < wl P f k := by
  obtain ⟨L, hL, ht⟩ := List.mem_flatten.mp h
  obtain ⟨k, hk, rfl⟩ := List.mem_map.mp hL
  rw [List.mem_range'] at hk
  obtain ⟨q, h1, rfl⟩ := hk
  obtain ⟨l, rfl, h2, h3⟩ := seqJ_mem ht
  exact ⟨_, _, rfl, by omega, by omega, h3⟩
set_option maxRecDepth 100000 in
theorem t_nextPartner (H : plIs h b le pc P) (hok : posOK P) (hmd : m < b ∨ b + 5 ≤ m) (Q : ipQ) {f u i v j : Nat} (hf : f < P.2.length) (hu : u < fl P f) (hi : i < wl P f u) (hv : v ≤ 1000) (hj : j ≤ 1000)
    (h0 : (seqJ f u i v j (wl P f v) ++ remV P f u i (v + 1)).filter (canT P) = [] → ∀ v2 j2, Q (some (.int (nI 0))) (mM h m (f, u, i, v2, j2) xs) z)
    (h1 : ∀ v2 j2, v2 < fl P f → j2 < wl P f v2 → canT P (f, u, i, v2, j2) = true → (seqJ f u i v j (wl P f v) ++ remV P f u i (v + 1)).filter (canT P) = (f, u, i, v2, j2) :: (seqJ f u i v2 (j2 + 1) (wl P f v2) ++ remV P f u i (v2 + 1)).filter (canT P) → Q (some (.int (nI 1))) (mM h m (f, u, i, v2, j2) xs) z) :
    ipC sc (d + 3) 47 [.ref b, .ref m] (mM h m (f, u, i, v, j) xs) z 0 0 Q := by
  have hs := H.sm
  have q1 := hs.1
  have q2 := hs.2.1 f
  have q3 := hs.2.2 f
  have hF := gD (d := []) hf
  have hU : (P.2.getD f [])[u]? = some ((P.2.getD f []).getD u []) := gD hu
  have hI : ((P.2.getD f []).getD u [])[i]? = some (((P.2.getD f []).getD u []).getD i 0) := gD hi
  have ha := hok.1 _ (mem_pC hF hU hI)
  have la := gD (d := 0) ha
  generalize hae : ((P.2.getD f []).getD u []).getD i 0 = a at hI ha la
  have hla3 := hok.2 _ (List.mem_of_getElem? la)
  have HM : ∀ v j, plIs (mM h m (f, u, i, v, j) xs) b le pc P := fun v j => H.mM hmd
  have ha31 : a < 31 := by
    obtain ⟨-, sa, wf, ff, lf, -, -, -, -, -, -, -, -, o4⟩ := H
    simp only at o4
    omega
  refine ipC_mk [some (.ref b), some (.ref m), none] rfl (Nat.le_of_ble_eq_true rfl) ?_
  refine c47_0 (v_fs1_0 := f) (v_fs1_1 := u) (v_fs1_2 := i) mM_eq rfl rfl rfl (HM v j).ob (Nat.zero_le _) (Nat.zero_le _) (t_spot (HM v j) hF hU hI) (kI ?_)
  have hlf : ∃ lf, (mM h m (f, u, i, v, j) xs) (b + 4) = some (.inl (0, 31, .inl lf)) ∧ lf a = nI (P.1.getD a 0) := by
    obtain ⟨-, sa, wf, ff, lf, ⟨-, -, -, -, k5⟩, r1, -⟩ := HM v j
    exact ⟨lf, k5, rowL_at r1 la⟩
  obtain ⟨lf, k5, k6⟩ := hlf
  refine c47_16 (HM v j).ob rfl k5 ha31 (by decide) k6 (by omega) (fun hne => ?_) (fun he => c47_26 (h0 ?_ _ _))
  · -- the loops
    have cornerLoop : ∀ n v j, v < fl P f → j ≤ 1000 → j + n = wl P f v + (j - wl P f v) → (∀ L2, L2 = (seqJ f u i v j (wl P f v) ++ remV P f u i (v + 1)).filter (canT P) → (L2 = [] → ∀ v2 j2, Q (some (.int (nI 0))) (mM h m (f, u, i, v2, j2) xs) z) → (∀ v2 j2, v2 < fl P f → j2 < wl P f v2 → canT P (f, u, i, v2, j2) = true → L2 = (f, u, i, v2, j2) :: (seqJ f u i v2 (j2 + 1) (wl P f v2) ++ remV P f u i (v2 + 1)).filter (canT P) → Q (some (.int (nI 1))) (mM h m (f, u, i, v2, j2) xs) z) →
        ((seqJ f u i v j (wl P f v)).filter (canT P) = [] → ip sc (ipC sc (d + 2)) 47 0 0 Q 28 [some (.ref b), some (.ref m), some (.int (nI a))] [] (mM h m (f, u, i, v + 1, 0) xs) z 0 0) → ip sc (ipC sc (d + 2)) 47 0 0 Q 43 [some (.ref b), some (.ref m), some (.int (nI a))] [] (mM h m (f, u, i, v, j) xs) z 0 0) := by
      intro n
      induction n with
      | zero =>
        intro v j hv hj hn L2 hL h0 h1 hk
        have := q3 v
        refine c47_43 (v_fs1_0 := f) (v_fs1_3 := v) (v_fs1_4 := j) mM_eq rfl rfl rfl (HM v j).ob (Nat.zero_le _) (Nat.zero_le _) (t_cornersOn (HM v j) hf hv) (kI ?_)
        refine c47_59 (by omega) (by omega) (fun _ => c47_101 (v_fs1_3 := v) mM_eq rfl rfl ?_) (fun r => absurd (show wl P f v ≤ j by omega) r)
        rw [show hup (mM h m (f, u, i, v, j) xs) m (.inr (2, (([.int (nI f), .int (nI u), .int (nI i), .int (nI v), .int (nI j), .int xs] : List Value).set 4 (.int (nI 0))).set 3 (.int (nI (v + 1))))) = mM h m (f, u, i, v + 1, 0) xs from hup_hup]
        exact hk (by rw [seqJ_e (by omega)]; rfl)
      | succ n ih =>
        intro v j hv hj hn L2 hL h0 h1 hk
        have := q3 v
        have hjw : j < wl P f v := by omega
        refine c47_43 (v_fs1_0 := f) (v_fs1_3 := v) (v_fs1_4 := j) mM_eq rfl rfl rfl (HM v j).ob (Nat.zero_le _) (Nat.zero_le _) (t_cornersOn (HM v j) hf hv) (kI ?_)
        refine c47_59 (by omega) (by omega) (fun r => absurd r (by omega)) (fun _ => ?_)
        have hV : (P.2.getD f [])[v]? = some ((P.2.getD f []).getD v []) := gD hv
        have hJ : ((P.2.getD f []).getD v [])[j]? = some (((P.2.getD f []).getD v []).getD j 0) := gD hjw
        have lb := gD (d := 0) (hok.1 _ (mem_pC hF hV hJ))
        refine c47_62 (v_fs1_0 := f) (v_fs1_3 := v) (v_fs1_4 := j) mM_eq rfl rfl rfl (HM v j).ob (Nat.zero_le _) (Nat.zero_le _) (t_spot (HM v j) hF hV hJ) (kI ?_)
        refine c47_80 (HM v j).ob (Nat.zero_le _) (Nat.zero_le _) (t_canMeet (HM v j) la lb hla3 (hok.2 _ (List.mem_of_getElem? lb))) (kI ?_)
        have ec : cM P.1 a (((P.2.getD f []).getD v []).getD j 0) = canT P (f, u, i, v, j) := by
          unfold canT
          simp only
          rw [hae]
        rw [ec]
        rw [seqJ_s hjw, List.cons_append, List.filter_cons] at hL
        cases hc : canT P (f, u, i, v, j)
        · rw [hc, if_neg (by decide)] at hL
          refine c47_83 (by decide) (fun _ => c47_88 (v_fs1_4 := j) mM_eq rfl rfl ?_) (fun r => absurd rfl r)
          rw [show hup (mM h m (f, u, i, v, j) xs) m (.inr (2, ([.int (nI f), .int (nI u), .int (nI i), .int (nI v), .int (nI j), .int xs] : List Value).set 4 (.int (nI (j + 1))))) = mM h m (f, u, i, v, j + 1) xs from hup_hup]
          exact ih v (j + 1) hv (by omega) (by omega) L2 hL h0 h1 (fun e => hk (by rw [seqJ_s hjw, List.filter_cons, if_neg (by rw [hc]; decide)]; exact e))
        · rw [hc, if_pos rfl] at hL
          exact c47_83 (by decide) (fun r => absurd r (by decide)) (fun _ => c47_86 (h1 v j hv hjw hc hL))
    have wallLoop : ∀ n v, v ≤ 1000 → v + n = fl P f + (v - fl P f) → ∀ j L2, j ≤ 1000 → (fl P f ≤ v ∨ L2 = (seqJ f u i v j (wl P f v) ++ remV P f u i (v + 1)).filter (canT P)) → (fl P f ≤ v → L2 = []) → (L2 = [] → ∀ v2 j2, Q (some (.int (nI 0))) (mM h m (f, u, i, v2, j2) xs) z) → (∀ v2 j2, v2 < fl P f → j2 < wl P f v2 → canT P (f, u, i, v2, j2) = true → L2 = (f, u, i, v2, j2) :: (seqJ f u i v2 (j2 + 1) (wl P f v2) ++ remV P f u i (v2 + 1)).filter (canT P) → Q (some (.int (nI 1))) (mM h m (f, u, i, v2, j2) xs) z) →
        ip sc (ipC sc (d + 2)) 47 0 0 Q 28 [some (.ref b), some (.ref m), some (.int (nI a))] [] (mM h m (f, u, i, v, j) xs) z 0 0 := by
      intro n
      induction n with
      | zero =>
        intro v hv hn j L2 hj hL he h0 h1
        refine c47_28 (v_fs1_0 := f) (v_fs1_3 := v) mM_eq rfl rfl (HM v j).ob (Nat.zero_le _) (Nat.zero_le _) (t_wallsIn (HM v j) hf) (kI ?_)
        exact c47_40 (by omega) (by omega) (fun r => c47_119 (h0 (he r) _ _)) (fun r => absurd (show fl P f ≤ v by omega) r)
      | succ n ih =>
        intro v hv hn j L2 hj hL he h0 h1
        have hvf : v < fl P f := by omega
        have hL : L2 = (seqJ f u i v j (wl P f v) ++ remV P f u i (v + 1)).filter (canT P) := by
          rcases hL with r | r
          · omega
          · exact r
        refine c47_28 (v_fs1_0 := f) (v_fs1_3 := v) mM_eq rfl rfl (HM v j).ob (Nat.zero_le _) (Nat.zero_le _) (t_wallsIn (HM v j) hf) (kI ?_)
        refine c47_40 (by omega) (by omega) (fun r => absurd r (by omega)) (fun _ => ?_)
        refine cornerLoop (wl P f v - j) v j hvf hj (by omega) L2 hL h0 h1 (fun hex => ?_)
        have hL3 : L2 = (remV P f u i (v + 1)).filter (canT P) := by rw [hL, List.filter_append, hex]; rfl
        refine ih (v + 1) (by omega) (by omega) 0 L2 (by omega) ?_ (fun r => by rw [hL3, remV_e r]; rfl) h0 h1
        by_cases hv1 : v + 1 < fl P f
        · right
          rw [hL3, remV_s hv1]
        · left
          omega
    refine wallLoop (fl P f - v) v hv (by omega) j _ hj (Or.inr rfl) (fun r => ?_) h0 h1
    rw [seqJ_e (by rw [wl_out r]; omega), remV_e (by omega)]
    rfl
  · refine filt_nil fun t ht => ?_
    have hz : P.1.getD (((P.2.getD f []).getD u []).getD i 0) 0 = 0 := by rw [hae]; exact Classical.not_not.mp he
    rcases List.mem_append.mp ht with r | r
    · obtain ⟨k, rfl, -⟩ := seqJ_mem r
      exact canT_dead hz
    · obtain ⟨k, l, rfl, -⟩ := remV_mem r
      exact canT_dead hz
theorem rem_i2 {f u i v j : Nat} (hi : i < wl P f u) (he : (seqJ f u i v j (wl P f v) ++ remV P f u i (v + 1)).filter (canT P) = []) : prs P (f, u, i, v, j) = prs P (f, u, i + 1, u, i + 1) := by
  unfold prs
  rw [rem_split hi, List.filter_append, he]
  rfl
theorem prs_at {f u i v j : Nat} (hi : i < wl P f u) : prs P (f, u, i, v, j) = (seqJ f u i v j (wl P f v) ++ remV P f u i (v + 1)).filter (canT P) ++ prs P (f, u, i + 1, u, i + 1) := by
  unfold prs
  rw [rem_split hi, List.filter_append]
set_option maxRecDepth 100000 in
/-- the next two corners -/
theorem t_nextPair (H : plIs h b le pc P) (hok : posOK P) (hmd : m < b ∨ b + 5 ≤ m) (Q : ipQ) {f u i v j : Nat} {xj : Int32} (hj1 : xj + 1 = nI j) (hf : f ≤ 1000) (hu : u ≤ 1000) (hi : i ≤ 1000) (hv : v ≤ 1000) (hj : j ≤ 1000) (hst : fl P f ≤ u → i = 0 ∧ j = 0)
    (hm : h m = some (.inr (2, [.int (nI f), .int (nI u), .int (nI i), .int (nI v), .int xj, .int xs])))
    (h0 : prs P (f, u, i, v, j) = [] → ∀ t2, Q (some (.int (nI 0))) (mM h m t2 xs) z)
    (h1 : ∀ t2, isTh P t2 = true → canT P t2 = true → prs P (f, u, i, v, j) = t2 :: prs P (curN t2) → Q (some (.int (nI 1))) (mM h m t2 xs) z) :
    ipC sc (d + 4) 46 [.ref b, .ref m] h z 0 0 Q := by
  have hs := H.sm
  have q1 := hs.1
  have q2 := hs.2.1
  have q3 := hs.2.2
  have HM : ∀ t, plIs (mM h m t xs) b le pc P := fun t => H.mM hmd
  refine ipC_mk [some (.ref b), some (.ref m)] rfl (Nat.le_of_ble_eq_true rfl) ?_
  refine b46_0 (v_fs1_4 := xj) hm rfl rfl ?_
  rw [hj1, show hup h m (.inr (2, ([.int (nI f), .int (nI u), .int (nI i), .int (nI v), .int xj, .int xs] : List Value).set 4 (.int (nI j)))) = mM h m (f, u, i, v, j) xs from rfl]
  generalize hL : prs P (f, u, i, v, j) = L at h0 h1
  -- corners of a wall
  have cornerLoop : ∀ n f u i v j, f < P.2.length → u < fl P f → v ≤ 1000 → j ≤ 1000 → i ≤ 1000 → i + n = wl P f u + (i - wl P f u) → prs P (f, u, i, v, j) = L → (prs P (f, u + 1, 0, u + 1, 0) = L → ip sc (ipC sc (d + 3)) 46 0 0 Q 21 [some (.ref b), some (.ref m)] [] (mM h m (f, u + 1, 0, u + 1, 0) xs) z 0 0) → ip sc (ipC sc (d + 3)) 46 0 0 Q 36 [some (.ref b), some (.ref m)] [] (mM h m (f, u, i, v, j) xs) z 0 0 := by
    intro n
    induction n with
    | zero =>
      intro f u i v j hf hu hv hj hi hn hL hk
      have := q3 f u
      have := q2 f
      refine c46_36 (v_fs1_0 := f) (v_fs1_1 := u) (v_fs1_2 := i) mM_eq rfl rfl rfl (HM _).ob (Nat.zero_le _) (Nat.zero_le _) (t_cornersOn (HM _) hf hu) (kI ?_)
      refine c46_52 (by omega) (by omega) (fun r => c46_96 (v_fs1_1 := u) mM_eq rfl rfl ?_) (fun r => absurd (show wl P f u ≤ i by omega) r)
      rw [show hup (mM h m (f, u, i, v, j) xs) m (.inr (2, (((([.int (nI f), .int (nI u), .int (nI i), .int (nI v), .int (nI j), .int xs] : List Value).set 2 (.int (nI 0))).set 3 (.int (nI (u + 1)))).set 4 (.int (nI 0))).set 1 (.int (nI (u + 1))))) = mM h m (f, u + 1, 0, u + 1, 0) xs from hup_hup]
      refine hk ?_
      rw [← hL]
      unfold prs
      rw [rem_u (show wl P f u ≤ i by omega)]
    | succ n ih =>
      intro f u i v j hf hu hv hj hi hn hL hk
      have := q3 f u
      have := q2 f
      have hiw : i < wl P f u := by omega
      refine c46_36 (v_fs1_0 := f) (v_fs1_1 := u) (v_fs1_2 := i) mM_eq rfl rfl rfl (HM _).ob (Nat.zero_le _) (Nat.zero_le _) (t_cornersOn (HM _) hf hu) (kI ?_)
      refine c46_52 (by omega) (by omega) (fun r => absurd r (by omega)) (fun _ => ?_)
      refine c46_55 (HM _).ob (Nat.zero_le _) (Nat.zero_le _) (t_nextPartner H hok hmd (fun o h2 z2 => z2 = z ∧ ((o = some (.int (nI 0)) ∧ (seqJ f u i v j (wl P f v) ++ remV P f u i (v + 1)).filter (canT P) = [] ∧ ∃ v2 j2, h2 = mM h m (f, u, i, v2, j2) xs) ∨ (o = some (.int (nI 1)) ∧ ∃ v2 j2, isTh P (f, u, i, v2, j2) = true ∧ canT P (f, u, i, v2, j2) = true ∧ L = (f, u, i, v2, j2) :: prs P (f, u, i, v2, j2 + 1) ∧ h2 = mM h m (f, u, i, v2, j2) xs))) hf hu hiw hv hj (fun e v2 j2 => ⟨rfl, Or.inl ⟨rfl, e, v2, j2, rfl⟩⟩) (fun v2 j2 e1 e2 e3 e4 => ⟨rfl, Or.inr ⟨rfl, v2, j2, decide_eq_true ⟨hf, hu, hiw, e1, e2⟩, e3, ?_, rfl⟩⟩)) ?_
      · rw [← hL, prs_at hiw, prs_at hiw, e4]
        rfl
      · rintro o h2 z2 ⟨rfl, ⟨rfl, e, v2, j2, rfl⟩ | ⟨rfl, v2, j2, e1, e2, e3, rfl⟩⟩
        · refine c46_60 (sa_0 := 0) (by decide) (fun _ => c46_65 (v_fs1_1 := u) (v_fs1_2 := i) mM_eq rfl rfl rfl ?_) (fun r => absurd rfl r)
          rw [show hup (mM h m (f, u, i, v2, j2) xs) m (.inr (2, ((([.int (nI f), .int (nI u), .int (nI i), .int (nI v2), .int (nI j2), .int xs] : List Value).set 3 (.int (nI u))).set 4 (.int (nI (i + 1)))).set 2 (.int (nI (i + 1))))) = mM h m (f, u, i + 1, u, i + 1) xs from hup_hup]
          exact ih f u (i + 1) u (i + 1) hf hu (by omega) (by omega) (by omega) (by omega) ((rem_i2 hiw e).symm.trans hL) hk
        · exact c46_60 (sa_0 := 1) (by decide) (fun r => absurd r (by decide)) (fun _ => c46_63 (h1 _ e1 e2 e3))
  have wallLoop : ∀ n f u i v j, f < P.2.length → u ≤ 1000 → v ≤ 1000 → j ≤ 1000 → i ≤ 1000 → u + n = fl P f + (u - fl P f) → (fl P f ≤ u → i = 0 ∧ j = 0) → prs P (f, u, i, v, j) = L → (prs P (f + 1, 0, 0, 0, 0) = L → ip sc (ipC sc (d + 3)) 46 0 0 Q 10 [some (.ref b), some (.ref m)] [] (mM h m (f + 1, 0, 0, 0, 0) xs) z 0 0) → ip sc (ipC sc (d + 3)) 46 0 0 Q 21 [some (.ref b), some (.ref m)] [] (mM h m (f, u, i, v, j) xs) z 0 0 := by
    intro n
    induction n with
    | zero =>
      intro f u i v j hf hu hv hj hi hn hst hL hk
      have := q2 f
      obtain ⟨rfl, rfl⟩ := hst (by omega)
      refine c46_21 (v_fs1_0 := f) (v_fs1_1 := u) mM_eq rfl rfl (HM _).ob (Nat.zero_le _) (Nat.zero_le _) (t_wallsIn (HM _) hf) (kI ?_)
      refine c46_33 (by omega) (by omega) (fun r => c46_129 (v_fs1_0 := f) mM_eq rfl rfl ?_) (fun r => absurd (show fl P f ≤ u by omega) r)
      rw [show hup (mM h m (f, u, 0, v, 0) xs) m (.inr (2, ((([.int (nI f), .int (nI u), .int (nI 0), .int (nI v), .int (nI 0), .int xs] : List Value).set 1 (.int (nI 0))).set 3 (.int (nI 0))).set 0 (.int (nI (f + 1))))) = mM h m (f + 1, 0, 0, 0, 0) xs from hup_hup]
      refine hk ?_
      rw [← hL]
      unfold prs
      rw [rem_f (show fl P f ≤ u by omega)]
    | succ n ih =>
      intro f u i v j hf hu hv hj hi hn hst hL hk
      have := q2 f
      have huf : u < fl P f := by omega
      refine c46_21 (v_fs1_0 := f) (v_fs1_1 := u) mM_eq rfl rfl (HM _).ob (Nat.zero_le _) (Nat.zero_le _) (t_wallsIn (HM _) hf) (kI ?_)
      refine c46_33 (by omega) (by omega) (fun r => absurd r (by omega)) (fun _ => ?_)
      exact cornerLoop (wl P f u - i) f u i v j hf huf hv hj hi (by omega) hL (fun e => ih f (u + 1) 0 (u + 1) 0 hf (by omega) (by omega) (by omega) (by omega) (by omega) (fun _ => ⟨rfl, rfl⟩) e hk)
  have fieldLoop : ∀ n f u i v j, f ≤ 1000 → u ≤ 1000 → v ≤ 1000 → j ≤ 1000 → i ≤ 1000 → f + n = P.2.length + (f - P.2.length) → (fl P f ≤ u → i = 0 ∧ j = 0) → prs P (f, u, i, v, j) = L → ip sc (ipC sc (d + 3)) 46 0 0 Q 10 [some (.ref b), some (.ref m)] [] (mM h m (f, u, i, v, j) xs) z 0 0 := by
    intro n
    induction n with
    | zero =>
      intro f u i v j hf hu hv hj hi hn hst hL
      refine c46_10 (v_fs1_0 := f) (v_fs4_7 := P.2.length) mM_eq rfl (HM _).ob rfl (by omega) (by omega) (fun r => c46_152 (h0 ?_ _)) (fun r => absurd (show P.2.length ≤ f by omega) r)
      rw [← hL]
      unfold prs
      rw [rem_end r]
      rfl
    | succ n ih =>
      intro f u i v j hf hu hv hj hi hn hst hL
      refine c46_10 (v_fs1_0 := f) (v_fs4_7 := P.2.length) mM_eq rfl (HM _).ob rfl (by omega) (by omega) (fun r => absurd r (by omega)) (fun _ => ?_)
      exact wallLoop (fl P f - u) f u i v j (by omega) hu hv hj hi (by omega) hst hL (fun e => ih (f + 1) 0 0 0 0 (by omega) (by omega) (by omega) (by omega) (by omega) (by omega) (fun _ => ⟨rfl, rfl⟩) e)
  exact fieldLoop (P.2.length - f) f u i v j hf hu hv hj hi (by omega) hst hL
end POS
