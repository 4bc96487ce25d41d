/-! the k-th move -/
def sdL (P : PosT) (t : Cur) : List MvT := (List.range' 0 (sidesP P t)).map (fun k => (t, k))
def mvp (P : PosT) (L : List Cur) : List MvT := (L.map (sdL P)).flatten
theorem mvp_cons {P : PosT} {t : Cur} {L : List Cur} : mvp P (t :: L) = sdL P t ++ mvp P L := rfl
theorem sdL_len {P : PosT} {t : Cur} : (sdL P t).length = sidesP P t := by unfold sdL; rw [List.length_map, List.length_range']
theorem sdL_at {P : PosT} {t : Cur} {k : Nat} (h : k < sidesP P t) : (sdL P t)[k]? = some (t, k) := by
  unfold sdL
  rw [List.getElem?_map, List.getElem?_range' h]
  simp
theorem flt_all {P : PosT} {t : Cur} (h : canT P t = true) : ∀ l : List Nat, (l.map (fun k => ((t, k) : MvT))).filter (cF P) = l.map (fun k => (t, k))
  | [] => rfl
  | k :: l => by
    rw [List.map_cons, List.filter_cons, if_pos (show cF P (t, k) = true from h), flt_all h l]
theorem mvs_rem {P : PosT} : ∀ L : List Cur, (stR P L).filter (cF P) = mvp P (L.filter (canT P))
  | [] => rfl
  | t :: L => by
    rw [stR_cons, List.filter_append, mvs_rem L]
    cases h : canT P t
    · rw [List.filter_cons, if_neg (by rw [h]; decide)]
      unfold stT
      rw [if_neg (by rw [h]; decide), List.filter_cons, if_neg (show ¬ cF P (t, 0) = true by unfold cF; rw [h]; decide)]
      rfl
    · rw [List.filter_cons, if_pos h, mvp_cons]
      congr 1
      unfold stT
      rw [if_pos h, flt_all h]
      rfl
theorem mvs_prs {P : PosT} : mvs P = mvp P (prs P cur0) := mvs_rem _
def ord (t : Cur) : Prop := t.2.1 ≤ t.2.2.2.1 ∧ (t.2.1 = t.2.2.2.1 → t.2.2.1 ≤ t.2.2.2.2)
theorem wl_pos {P : PosT} {f u : Nat} (h : 0 < wl P f u) : u < fl P f ∧ f < P.2.length := by
  have h1 : u < fl P f := Nat.lt_of_not_le fun q => by rw [wl_out q] at h; omega
  exact ⟨h1, Nat.lt_of_not_le fun q => by rw [fl_out q] at h1; omega⟩
theorem round_mem {P : PosT} {f u i : Nat} {t : Cur} (hi : i < wl P f u) (h : t ∈ seqJ f u i u i (wl P f u) ++ remV P f u i (u + 1)) : ord t ∧ isTh P t = true := by
  obtain ⟨w1, w2⟩ := wl_pos (P := P) (f := f) (u := u) (by omega)
  rcases List.mem_append.mp h with r | r
  · obtain ⟨k, rfl, h1, h2⟩ := seqJ_mem r
    exact ⟨⟨Nat.le_refl _, fun _ => h1⟩, decide_eq_true ⟨w2, w1, hi, w1, h2⟩⟩
  · obtain ⟨k, l, rfl, h1, h2, h3⟩ := remV_mem r
    exact ⟨⟨by simp only; omega, fun q => by simp only at q; omega⟩, decide_eq_true ⟨w2, w1, hi, h2, h3⟩⟩
theorem remI_mem {P : PosT} {f u i : Nat} {t : Cur} (h : t ∈ remI P f u i) : ord t ∧ isTh P t = true := by
  obtain ⟨L, hL, ht⟩ := List.mem_flatten.mp h
  obtain ⟨k, hk, rfl⟩ := List.mem_map.mp hL
  rw [List.mem_range'] at hk
  obtain ⟨q, h1, rfl⟩ := hk
  exact round_mem (by omega) ht
theorem remU_mem {P : PosT} {f u : Nat} {t : Cur} (h : t ∈ remU P f u) : ord t ∧ isTh P t = true := by
  obtain ⟨L, hL, ht⟩ := List.mem_flatten.mp h
  obtain ⟨k, hk, rfl⟩ := List.mem_map.mp hL
  exact remI_mem ht
theorem remF_mem {P : PosT} {f : Nat} {t : Cur} (h : t ∈ remF P f) : ord t ∧ isTh P t = true := by
  obtain ⟨L, hL, ht⟩ := List.mem_flatten.mp h
  obtain ⟨k, hk, rfl⟩ := List.mem_map.mp hL
  exact remU_mem ht
theorem rem0_mem {P : PosT} {t : Cur} (h : t ∈ rem P cur0) : ord t ∧ isTh P t = true := by
  unfold rem cur0 at h
  simp only at h
  rcases List.mem_append.mp h with r | r
  · split at r
    · rename_i e
      exact round_mem e r
    · cases r
  · rcases List.mem_append.mp r with r | r
    · exact remI_mem r
    · rcases List.mem_append.mp r with r | r
      · exact remU_mem r
      · exact remF_mem r
theorem prs_mem {P : PosT} {t : Cur} (h : t ∈ prs P cur0) : ord t ∧ isTh P t = true ∧ canT P t = true := by
  obtain ⟨h1, h2⟩ := List.mem_filter.mp h
  exact ⟨(rem0_mem h1).1, (rem0_mem h1).2, h2⟩
theorem prs_legal {P : PosT} {f u i v j s : Nat} (h : (f, u, i, v, j) ∈ prs P cur0) (hs : s < sidesP P (f, u, i, v, j)) : legal P f u i v j s := by
  obtain ⟨h1, h2, h3⟩ := prs_mem h
  exact ⟨h2, h1.1, h1.2, h3, hs⟩
theorem mvs_legal {P : PosT} {f u i v j s : Nat} (h : ((f, u, i, v, j), s) ∈ mvs P) : legal P f u i v j s := by
  rw [mvs_prs] at h
  obtain ⟨L, hL, ht⟩ := List.mem_flatten.mp h
  obtain ⟨t, hk, rfl⟩ := List.mem_map.mp hL
  obtain ⟨k, hk2, e⟩ := List.mem_map.mp ht
  cases e
  rw [List.mem_range'] at hk2
  obtain ⟨q, h1, rfl⟩ := hk2
  exact prs_legal hk (by omega)
-- how many pairs
def cC (P : PosT) (f : Nat) : Nat := (P.2.getD f []).flatten.length
theorem sumW {P : PosT} {f : Nat} : ∀ n v, v + n = fl P f + (v - fl P f) → (remV P f 0 0 v).length = (P.2.getD f []).flatten.length - lSt (P.2.getD f []) v ∨ fl P f < v := by
  intro n
  induction n with
  | zero =>
    intro v hn
    by_cases e : fl P f < v
    · exact Or.inr e
    · left
      have : v = (P.2.getD f []).length := by have : fl P f = (P.2.getD f []).length := rfl; omega
      rw [remV_e (by omega), this, lSt_len]
      simp
  | succ n ih =>
    intro v hn
    left
    have hv : v < fl P f := by omega
    have h1 := ih (v + 1) (by omega)
    have h2 := lSt_s (gD (d := []) (show v < (P.2.getD f []).length from hv))
    have h3 := lSt_le (l := P.2.getD f []) (f := v + 1)
    have h4 : (seqJ f 0 0 v 0 (wl P f v)).length = ((P.2.getD f []).getD v []).length := by
      unfold seqJ
      rw [List.length_map, List.length_range']
      rfl
    rw [remV_s hv, List.length_append, h4]
    rcases h1 with h1 | h1
    · rw [h1]; omega
    · omega
theorem remV_len {P : PosT} {f u i v : Nat} : (remV P f u i v).length = (remV P f 0 0 v).length := by
  unfold remV seqJ
  simp only [List.length_flatten, List.map_map]
  congr 2
  funext k
  simp
theorem round_len {P : PosT} {f u i : Nat} (hi : i < wl P f u) : (seqJ f u i u i (wl P f u) ++ remV P f u i (u + 1)).length ≤ cC P f := by
  have hu := (wl_pos (P := P) (f := f) (u := u) (by omega)).1
  have h1 := sumW (P := P) (f := f) (fl P f - (u + 1)) (u + 1) (by omega)
  have h2 := lSt_s (gD (d := []) (show u < (P.2.getD f []).length from hu))
  have h3 := lSt_le (l := P.2.getD f []) (f := u + 1)
  have h4 : (seqJ f u i u i (wl P f u)).length ≤ ((P.2.getD f []).getD u []).length := by
    unfold seqJ
    rw [List.length_map, List.length_range']
    unfold wl
    omega
  rw [List.length_append, remV_len]
  unfold cC
  rcases h1 with h1 | h1
  · omega
  · omega
theorem flat_le {α : Type} {c : Nat} : ∀ {L : List (List α)}, (∀ x ∈ L, x.length ≤ c) → L.flatten.length ≤ L.length * c
  | [], _ => by simp
  | x :: L, hh => by
    rw [List.flatten_cons, List.length_append, List.length_cons, Nat.add_mul]
    have h1 := hh x (List.mem_cons_self ..)
    have h2 := flat_le (L := L) fun y hy => hh y (List.mem_cons_of_mem _ hy)
    omega
theorem remI_len {P : PosT} {f u i : Nat} : (remI P f u i).length ≤ wl P f u * cC P f := by
  unfold remI
  refine Nat.le_trans (flat_le (c := cC P f) ?_) ?_
  · intro x hx
    obtain ⟨k, hk, rfl⟩ := List.mem_map.mp hx
    rw [List.mem_range'] at hk
    obtain ⟨q, h1, rfl⟩ := hk
    exact round_len (by omega)
  · rw [List.length_map, List.length_range']
    exact Nat.mul_le_mul_right _ (by omega)
theorem remU_len {P : PosT} {f : Nat} : ∀ n u, u + n = fl P f + (u - fl P f) → (remU P f u).length ≤ ((P.2.getD f []).flatten.length - lSt (P.2.getD f []) u) * cC P f := by
  intro n
  induction n with
  | zero =>
    intro u hn
    rw [remU_e (by omega)]
    simp
  | succ n ih =>
    intro u hn
    have hu : u < fl P f := by omega
    have h1 := ih (u + 1) (by omega)
    have h2 := lSt_s (gD (d := []) (show u < (P.2.getD f []).length from hu))
    have h3 := lSt_le (l := P.2.getD f []) (f := u + 1)
    have h4 := remI_len (P := P) (f := f) (u := u) (i := 0)
    rw [remU_s hu, List.length_append]
    have h5 : (P.2.getD f []).flatten.length - lSt (P.2.getD f []) u = wl P f u + ((P.2.getD f []).flatten.length - lSt (P.2.getD f []) (u + 1)) := by
      unfold wl
      omega
    rw [h5, Nat.add_mul]
    omega
theorem lSt2 {P : PosT} {f : Nat} (hf : f < P.2.length) : ((P.2.take (f + 1)).flatten.flatten).length = ((P.2.take f).flatten.flatten).length + cC P f := by
  rw [(take_fl (gD (d := []) hf)).1, List.flatten_append, List.flatten_append, List.length_append]
  simp [cC]
theorem cC_le {P : PosT} {f : Nat} : cC P f ≤ (pC P).length := by
  by_cases hf : f < P.2.length
  · have := take_fl (gD (d := []) hf)
    unfold cC
    have h2 : (pC P).length = P.2.flatten.flatten.length := rfl
    omega
  · unfold cC
    rw [getD_out (by omega)]
    simp
theorem remF_len {P : PosT} : ∀ n f, f + n = P.2.length + (f - P.2.length) → (remF P f).length ≤ ((pC P).length - ((P.2.take f).flatten.flatten).length) * (pC P).length := by
  intro n
  induction n with
  | zero =>
    intro f hn
    rw [remF_e (by omega)]
    simp
  | succ n ih =>
    intro f hn
    have hf : f < P.2.length := by omega
    have h1 := ih (f + 1) (by omega)
    have h2 := remU_len (P := P) (f := f) (fl P f) 0 (by omega)
    rw [lSt_0, Nat.sub_zero] at h2
    have h3 := lSt2 hf
    have h4 : ((P.2.take (f + 1)).flatten.flatten).length ≤ (pC P).length := by
      have := take_fl (gD (d := []) hf)
      have h2 : (pC P).length = P.2.flatten.flatten.length := rfl
      unfold cC at h3
      omega
    have h5 : (P.2.getD f []).flatten.length * cC P f ≤ cC P f * (pC P).length := Nat.mul_le_mul (Nat.le_refl _) cC_le
    rw [remF_s hf, List.length_append]
    have h6 : (pC P).length - ((P.2.take f).flatten.flatten).length = cC P f + ((pC P).length - ((P.2.take (f + 1)).flatten.flatten).length) := by omega
    rw [h6, Nat.add_mul]
    omega
theorem rem0_F {P : PosT} : rem P cur0 = remF P 0 := by
  have h : rem P cur0 = rem P (0, 0, 0, 0, 0) := rfl
  by_cases e : 0 < P.2.length
  · rw [remF_s e, h]
    by_cases e3 : 0 < fl P 0
    · rw [remU_s e3]
      unfold rem
      simp only
      by_cases e2 : 0 < wl P 0 0
      · rw [if_pos e2, remI_s e2]
        simp only [List.append_assoc]
      · rw [if_neg e2, remI_e (show wl P 0 0 ≤ 0 by omega), remI_e (show wl P 0 0 ≤ 0 + 1 by omega)]
        rfl
    · rw [rem_f (by omega), remU_e (by omega)]
      by_cases e4 : 1 < P.2.length
      · unfold rem
        simp only
        rw [show 0 + 1 = 1 from rfl, remF_s e4]
        by_cases e3 : 0 < fl P 1
        · rw [remU_s e3]
          by_cases e2 : 0 < wl P 1 0
          · rw [if_pos e2, remI_s e2]
            simp only [List.append_assoc, List.nil_append]
          · rw [if_neg e2, remI_e (show wl P 1 0 ≤ 0 by omega), remI_e (show wl P 1 0 ≤ 0 + 1 by omega)]
            rfl
        · rw [if_neg (by rw [wl_out (by omega)]; omega), remI_e (by rw [wl_out (by omega)]; omega), remU_e (show fl P 1 ≤ 0 by omega), remU_e (show fl P 1 ≤ 0 + 1 by omega)]
          rfl
      · rw [rem_end (by omega), remF_e (by omega)]
        rfl
  · rw [remF_e (by omega), h, rem_end (by omega)]
theorem prs_len {P : PosT} : (prs P cur0).length ≤ (pC P).length * (pC P).length := by
  unfold prs
  refine Nat.le_trans (List.length_filter_le ..) ?_
  rw [rem0_F]
  have := remF_len (P := P) P.2.length 0 (by omega)
  simpa using this
