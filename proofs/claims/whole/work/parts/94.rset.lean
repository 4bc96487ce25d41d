/-! the reference's begins, image, again, undo, made, tell -/
section REF
variable {sc : ipSc} {d z M n t : Nat} {h : HP} {al : Nat → Int32} {mv : Nat → MvT} {kn ms kz : Int32} {cu : Cur} {P : PosT} {fs : List Value}
theorem em1 {a b : Nat → Int32} : hup (mA h M a) (M + 1) (.inl (0, 52000, .inl b)) = mA h M b := hup_hup
theorem row_start {a : Nat → Int32} (h1 : 1 ≤ n) (h8 : n ≤ 8) (k1 : a 4 = nI n ∧ a 5 = nI 1 ∧ a 6 = nI n ∧ a 7 = nI n ∧ a 40 = nI n) (k2 : ∀ i, i < n → a (8 + i) = nI 3 ∧ a (72 + i) = nI 1 ∧ a (136 + i) = nI i) : rowIs a 4 (start n) := by
  have hB := (inv_start h1 h8).cap.2.1
  have hc := pC_start (n := n)
  have hw : pW (start n) = (List.range n).map (fun k => [k]) := by unfold pW start; simp
  have l1 : (start n).1.length = n := List.length_replicate
  have l3 : (pW (start n)).length = n := by rw [hw]; simp
  have l4 : (pC (start n)).length = n := by rw [hc]; simp
  obtain ⟨e1, e2, e3, e4, e5⟩ := k1
  refine ⟨⟨by rw [l1]; exact e1, e2, by rw [l3]; exact e3, by rw [l4]; exact e4⟩, fun i v hi => ?_, fun i v hi => ?_, fun i v hi => ?_, fun i v hi => ?_, hB⟩
  · have hl := lt_some hi
    rw [l1] at hl
    have hi : (List.replicate n 3)[i]? = some v := hi
    rw [List.getElem?_replicate, if_pos hl] at hi
    cases hi
    exact (k2 i hl).1
  · have hi : [((List.range n).map (fun k => [k])).length][i]? = some v := hi
    have hl : i < 1 := lt_some hi
    have : i = 0 := by omega
    subst this
    rw [List.length_map, List.length_range] at hi
    cases hi
    exact e5
  · rw [hw, List.map_map] at hi
    have hl := lt_some hi
    rw [List.length_map, List.length_range] at hl
    rw [List.getElem?_map, List.getElem?_range hl] at hi
    cases hi
    exact (k2 i hl).2.1
  · rw [hc] at hi
    have hl := lt_some hi
    rw [List.length_range] at hl
    rw [List.getElem?_range hl] at hi
    cases hi
    exact (k2 i hl).2.2
set_option maxHeartbeats 1000000 in
theorem t_begins (H : mdA h M fs al) (h1 : 1 ≤ n) (h8 : n ≤ 8) : ipC sc (d + 2) 92 [.ref M, .int (nI n)] h z 0 0 (qW h M z (fun a2 => rgm a2 0 n 0 mv ∧ ∀ x, 8180 ≤ x → a2 x = al x)) := by
  have H2 : ∀ a, mdA (mA h M a) M fs a := fun a => H.put
  refine ipC_mk [some (.ref M), some (.int (nI n)), none, none] rfl (Nat.le_of_ble_eq_true rfl) ?_
  refine c92_0 H.1 H.2.1 H.2.2 (by omega) (by decide) rfl (Nat.zero_le _) (Nat.zero_le _) (ipC_mk (d := d) [some (.int (nI 0))] rfl (Nat.le_of_ble_eq_true rfl) (c93_0 ⟨rfl, rfl, rfl⟩)) (kI (c92_11 ?_))
  have loop2 : ∀ (m k : Nat) (a3 : Nat → Int32), k + m = n → a3 0 = nI 0 → (∀ x, 8180 ≤ x → a3 x = al x) → (a3 4 = nI n ∧ a3 5 = nI 1 ∧ a3 6 = nI n ∧ a3 7 = nI n ∧ a3 40 = nI n) → (∀ i, i < k → a3 (8 + i) = nI 3 ∧ a3 (72 + i) = nI 1 ∧ a3 (136 + i) = nI i) → ip sc (ipC sc (d + 1)) 92 0 0 (qW h M z (fun a2 => rgm a2 0 n 0 mv ∧ ∀ x, 8180 ≤ x → a2 x = al x)) 84 [some (.ref M), some (.int (nI n)), some (.int (nI 4)), some (.int (nI k))] [] (mA h M a3) z 0 0 := by
    intro m
    induction m with
    | zero =>
      intro k a3 hk g1 g2 g3 g4
      have : k = n := by omega
      subst this
      refine c92_84 (by omega) (by omega) (fun _ => c92_131 ⟨rfl, rfl, a3, rfl, ⟨g1, fun i hi => ?_, fun i hi => absurd hi (by omega)⟩, g2⟩) (fun r => absurd (Nat.le_refl _) r)
      have : i = 0 := by omega
      subst this
      exact row_start h1 h8 g3 g4
    | succ m ih =>
      intro k a3 hk g1 g2 g3 g4
      refine c92_84 (by omega) (by omega) (fun r => absurd r (by omega)) (fun _ => ?_)
      refine c92_89 (H2 a3).1 (H2 a3).2.1 (H2 a3).2.2 (by omega) (by decide) rfl (by omega) (by omega) rfl (by omega) rfl ?_
      rw [em1]
      have un : ∀ x, x ≠ 4 + 4 + k → x ≠ 4 + 68 + k → x ≠ 4 + 132 + k → upd (upd (upd a3 (4 + 4 + k) (nI 3)) (4 + 68 + k) (nI 1)) (4 + 132 + k) (nI k) x = a3 x := fun x q1 q2 q3 => by rw [pk_un q3, pk_un q2, pk_un q1]
      refine ih (k + 1) _ (by omega) ((un _ (by omega) (by omega) (by omega)).trans g1) (fun x hx => (un _ (by omega) (by omega) (by omega)).trans (g2 x hx)) ⟨(un _ (by omega) (by omega) (by omega)).trans g3.1, (un _ (by omega) (by omega) (by omega)).trans g3.2.1, (un _ (by omega) (by omega) (by omega)).trans g3.2.2.1, (un _ (by omega) (by omega) (by omega)).trans g3.2.2.2.1, (un _ (by omega) (by omega) (by omega)).trans g3.2.2.2.2⟩ (fun i hi => ?_)
      by_cases e : i = k
      · subst e
        refine ⟨?_, ?_, ?_⟩
        · rw [pk_un (by omega), pk_un (by omega), show 8 + i = 4 + 4 + i by omega, pk_us]
        · rw [pk_un (by omega), show 72 + i = 4 + 68 + i by omega, pk_us]
        · rw [show 136 + i = 4 + 132 + i by omega, pk_us]
      · have := g4 i (by omega)
        exact ⟨(un _ (by omega) (by omega) (by omega)).trans this.1, (un _ (by omega) (by omega) (by omega)).trans this.2.1, (un _ (by omega) (by omega) (by omega)).trans this.2.2⟩
  have loop1 : ∀ (m k : Nat) (a3 : Nat → Int32), k + m = 332 → a3 0 = nI 0 → (∀ x, 8180 ≤ x → a3 x = al x) → ip sc (ipC sc (d + 1)) 92 0 0 (qW h M z (fun a2 => rgm a2 0 n 0 mv ∧ ∀ x, 8180 ≤ x → a2 x = al x)) 14 [some (.ref M), some (.int (nI n)), some (.int (nI 4)), some (.int (nI k))] [] (mA h M a3) z 0 0 := by
    intro m
    induction m with
    | zero =>
      intro k a3 hk g1 g2
      refine c92_14 (by omega) (fun _ => ?_) (fun r => absurd (by omega) r)
      refine c92_36 (H2 a3).1 (H2 a3).2.1 (H2 a3).2.2 (by omega) (by decide) rfl (by omega) (by omega) rfl (by omega) rfl (by omega) rfl (by omega) rfl ?_
      rw [em1]
      refine loop2 n 0 _ (by omega) ?_ (fun x hx => ?_) ⟨?_, ?_, ?_, ?_, ?_⟩ (fun i hi => absurd hi (by omega))
      · rw [pk_un (by omega), pk_un (by omega), pk_un (by omega), pk_un (by omega), pk_un (by omega)]; exact g1
      · rw [pk_un (by omega), pk_un (by omega), pk_un (by omega), pk_un (by omega), pk_un (by omega)]; exact g2 x hx
      · rw [pk_un (by omega), pk_un (by omega), pk_un (by omega), pk_un (by omega)]; exact pk_us
      · rw [pk_un (by omega), pk_un (by omega), pk_un (by omega)]; exact pk_us
      · rw [pk_un (by omega), pk_un (by omega)]; exact pk_us
      · rw [pk_un (by omega)]; exact pk_us
      · exact pk_us
    | succ m ih =>
      intro k a3 hk g1 g2
      refine c92_14 (by omega) (fun r => absurd r (by omega)) (fun _ => ?_)
      refine c92_21 (H2 a3).1 (H2 a3).2.1 (H2 a3).2.2 (by omega) (by decide) rfl ?_
      rw [em1]
      exact ih (k + 1) _ (by omega) (by rw [pk_un (by omega)]; exact g1) (fun x hx => by rw [pk_un (by omega)]; exact g2 x hx)
  exact loop1 332 0 _ (by omega) pk_us (fun x hx => pk_un (by omega))
theorem t_rundo (H : mdA h M fs al) (R : rgm al 0 n t mv) (ht : t ≤ 23) : ipC sc (d + 1) 134 [.ref M] h z 0 0 (fun o h2 z2 => z2 = z ∧ ((t = 0 ∧ o = some (.int (-1)) ∧ h2 = h) ∨ (1 ≤ t ∧ o = some (.int (nI (t - 1))) ∧ ∃ a2, h2 = mA h M a2 ∧ rgm a2 0 n (t - 1) mv ∧ ∀ x, 8180 ≤ x → a2 x = al x))) := by
  refine ipC_mk [some (.ref M)] rfl (Nat.le_of_ble_eq_true rfl) ?_
  refine c134_0 H.1 H.2.1 H.2.2 (by omega) (by decide) R.1 (by omega) (fun r => ?_) (fun r => c134_9 ⟨rfl, Or.inl ⟨Classical.not_not.mp r, rfl, rfl⟩⟩)
  refine c134_11 H.1 H.2.1 H.2.2 (by omega) (by decide) R.1 (by omega) rfl (by omega) pk_us ⟨rfl, Or.inr ⟨by omega, rfl, _, rfl, R.le (by omega) (fun x hx => pk_un hx) pk_us, fun x hx => pk_un (by omega)⟩⟩
theorem t_rmade (H : mdA h M fs al) (R : rgm al 0 n t mv) (ht : t ≤ 23) (x w : Int32) : ipC sc (d + 2) 135 [.ref M, .int x, .int w] h z 0 0 (qI (cI (isN x t) (mPt (mv (uI x)) w) (-1)) h z) := by
  obtain ⟨a, rfl⟩ := nI_all x
  obtain ⟨b, rfl⟩ := nI_all w
  refine ipC_mk [some (.ref M), some (.int (nI a)), some (.int (nI b))] rfl (Nat.le_of_ble_eq_true rfl) ?_
  refine c135_0 H.1 H.2.1 H.2.2 (by omega) (by decide) R.1 (Nat.zero_le _) (Nat.zero_le _) (t_isIn _ (by omega)) (kI ?_)
  by_cases e : isN (nI a) t
  · rw [tB_t e, cI_t e]
    obtain ⟨k, hk, e⟩ := e
    rw [e, uI_nI (by omega)]
    refine c135_10 (by omega) (fun r => absurd r (by decide)) (fun _ => ?_)
    refine c135_13 (Nat.zero_le _) (Nat.zero_le _) (t_isIn _ (by omega)) (kI ?_)
    by_cases e2 : isN (nI b) 6
    · rw [tB_t e2]
      obtain ⟨j, hj, e2⟩ := e2
      rw [e2]
      refine c135_19 (by omega) (fun r => absurd r (by decide)) (fun _ => ?_)
      have hr := R.2.2 k hk
      rw [Nat.zero_add] at hr
      match j, hj with
      | 0, _ => exact c135_22 H.1 H.2.1 H.2.2 (by omega) (by decide) (hr 0 _ rfl) (c135_41 ⟨rfl, rfl, rfl⟩)
      | 1, _ => exact c135_22 H.1 H.2.1 H.2.2 (by omega) (by decide) (hr 1 _ rfl) (c135_41 ⟨rfl, rfl, rfl⟩)
      | 2, _ => exact c135_22 H.1 H.2.1 H.2.2 (by omega) (by decide) (hr 2 _ rfl) (c135_41 ⟨rfl, rfl, rfl⟩)
      | 3, _ => exact c135_22 H.1 H.2.1 H.2.2 (by omega) (by decide) (hr 3 _ rfl) (c135_41 ⟨rfl, rfl, rfl⟩)
      | 4, _ => exact c135_22 H.1 H.2.1 H.2.2 (by omega) (by decide) (hr 4 _ rfl) (c135_41 ⟨rfl, rfl, rfl⟩)
      | 5, _ => exact c135_22 H.1 H.2.1 H.2.2 (by omega) (by decide) (hr 5 _ rfl) (c135_41 ⟨rfl, rfl, rfl⟩)
      | n + 6, h => exact absurd h (by omega)
    · rw [tB_f e2, show mPt (mv k) (nI b) = -1 from prt_out e2]
      exact c135_19 (by omega) (fun _ => c135_40 (b135_41 ⟨rfl, rfl, rfl⟩)) (fun r => absurd rfl r)
  · rw [tB_f e, cI_f e]
    exact c135_10 (by omega) (fun _ => c135_40 (b135_41 ⟨rfl, rfl, rfl⟩)) (fun r => absurd rfl r)
theorem t_rtell (H : mdA h M (mFs M kn cu ms kz) al) (h0 : al 0 = nI t) (ht : t ≤ 24) (HR : rowIs al (4 + 332 * t) P) (hok : posOK P) (hw : wB P) (hL : (mvs P).length ≤ 1280000) (x w : Int32) : ipC sc (d + 7) 133 [.ref M, .int x, .int w] h z 0 0 (fun o h2 z2 => z2 = z ∧ o = some (.int (match aK P x with
    | none => -1
    | some m => mPt m w)) ∧ ∃ t2 ms2, h2 = mC h M kn t2 ms2 kz) := by
  have hh : ∃ t2 ms2, h = mC h M kn t2 ms2 kz := ⟨cu, ms, (mC_self H.1).symm⟩
  refine ipC_mk [some (.ref M), some (.int x), some (.int w)] rfl (Nat.le_of_ble_eq_true rfl) ?_
  obtain ⟨b, rfl⟩ := nI_all w
  refine b133_0 (Nat.zero_le _) (Nat.zero_le _) (t_isIn (d := d + 5) (k := 6) _ (by omega)) (kI ?_)
  by_cases e2 : isN (nI b) 6
  · rw [tB_t e2]
    refine b133_6 (fun r => absurd r (by decide)) (fun _ => ?_)
    refine b133_9 H.1 (Nat.zero_le _) (Nat.zero_le _) (t_goesTo (d := d) H h0 ht HR hok hw hL x) ?_
    rintro o h4 z4 ⟨ez, ⟨rfl, e, t4, ms4, rfl⟩ | ⟨rfl, c4, s4, e, rfl⟩⟩ <;> obtain rfl := ez.symm <;> rw [e]
    · exact c133_14 (by omega) (fun r => absurd rfl r) (fun _ => b133_17 ⟨rfl, rfl, t4, ms4, rfl⟩)
    · refine c133_14 (by omega) (fun _ => ?_) (fun r => absurd (show ¬ (1 : Nat) = 0 by decide) r)
      obtain ⟨j, hj, e2⟩ := e2
      rw [e2]
      have h9 : mC h M kn c4 (nI s4) kz M = some (.inr (9, mFs M kn c4 (nI s4) kz)) := hup_eq
      match j, hj with
      | 0, _ => exact c133_19 (tgt := 56) (by decide) (c133_56 h9 rfl ⟨rfl, rfl, c4, nI s4, rfl⟩)
      | 1, _ => exact c133_19 (tgt := 61) (by decide) (c133_61 h9 rfl ⟨rfl, rfl, c4, nI s4, rfl⟩)
      | 2, _ => exact c133_19 (tgt := 66) (by decide) (c133_66 h9 rfl ⟨rfl, rfl, c4, nI s4, rfl⟩)
      | 3, _ => exact c133_19 (tgt := 71) (by decide) (c133_71 h9 rfl ⟨rfl, rfl, c4, nI s4, rfl⟩)
      | 4, _ => exact c133_19 (tgt := 76) (by decide) (c133_76 h9 rfl ⟨rfl, rfl, c4, nI s4, rfl⟩)
      | 5, _ => exact c133_19 (tgt := 81) (by decide) (c133_81 h9 rfl ⟨rfl, rfl, c4, nI s4, rfl⟩)
      | n + 6, h => exact absurd h (by omega)
  · rw [tB_f e2]
    have e3 : (match aK P x with
      | none => -1
      | some m => mPt m (nI b)) = (-1 : Int32) := by
      split
      · rfl
      · exact prt_out e2
    rw [e3]
    exact b133_6 (fun _ => b133_17 ⟨rfl, rfl, hh⟩) (fun r => absurd rfl r)
set_option maxHeartbeats 1000000 in
theorem t_rimage (H : mdA h M (mFs M kn cu ms kz) al) {hs : Nat → Int32} (Hh : h (M + 2) = some (.inl (3, 4, .inl hs))) (x : Int32) : ipC sc (d + 2) 149 [.ref M, .int x] h z 0 0 (fun o h2 z2 => z2 = z ∧ ((¬ isN x 4 ∧ o = some (.int (nI 0)) ∧ h2 = h) ∨ ∃ k a2, k < 4 ∧ x = nI k ∧ o = some (.int (nI 1)) ∧ h2 = mA (hup h (M + 2) (.inl (3, 4, .inl (upd hs k (nI 1))))) M a2 ∧ (∀ y, y < 8180 → a2 (8180 * (k + 1) + y) = al y) ∧ ∀ y, y < 8180 * (k + 1) ∨ 8180 * (k + 1) + 8180 ≤ y → a2 y = al y)) := by
  obtain ⟨a, rfl⟩ := nI_all x
  refine ipC_mk [some (.ref M), some (.int (nI a)), none] rfl (Nat.le_of_ble_eq_true rfl) ?_
  refine c149_0 (Nat.zero_le _) (Nat.zero_le _) (t_isIn (k := 4) _ (by omega)) (kI ?_)
  by_cases e : isN (nI a) 4
  · rw [tB_t e]
    obtain ⟨k, hk, e⟩ := e
    rw [e]
    refine c149_5 (by omega) (fun _ => ?_) (fun r => absurd (show ¬ (1 : Nat) = 0 by decide) r)
    refine c149_10 H.1 rfl Hh (by omega) (by decide) rfl ?_
    have hn1 : vp_nar .boolean (nI 1) = nI 1 := by decide
    rw [hn1]
    generalize hh2 : hup h (M + 2) (.inl (3, 4, .inl (upd hs k (nI 1)))) = h2
    have H2 : mdA h2 M (mFs M kn cu ms kz) al := by
      rw [← hh2]
      exact ⟨hup_ne (by omega) H.1, rfl, hup_ne (by omega) H.2.2⟩
    have loop : ∀ (m i : Nat) (a3 : Nat → Int32), i + m = 8180 → (∀ y, y < i → a3 (8180 * (k + 1) + y) = al y) → (∀ y, y < 8180 * (k + 1) ∨ 8180 * (k + 1) + i ≤ y → a3 y = al y) → ip sc (ipC sc (d + 1)) 149 0 0 (fun o h3 z2 => z2 = z ∧ ((¬ isN (nI k) 4 ∧ o = some (.int (nI 0)) ∧ h3 = h) ∨ ∃ k2 a2, k2 < 4 ∧ nI k = nI k2 ∧ o = some (.int (nI 1)) ∧ h3 = mA (hup h (M + 2) (.inl (3, 4, .inl (upd hs k2 (nI 1))))) M a2 ∧ (∀ y, y < 8180 → a2 (8180 * (k2 + 1) + y) = al y) ∧ ∀ y, y < 8180 * (k2 + 1) ∨ 8180 * (k2 + 1) + 8180 ≤ y → a2 y = al y)) 19 [some (.ref M), some (.int (nI k)), some (.int (nI i))] [] (mA h2 M a3) z 0 0 := by
      intro m
      induction m with
      | zero =>
        intro i a3 hi g1 g2
        have : i = 8180 := by omega
        subst this
        refine c149_19 (by omega) (fun _ => c149_52 ⟨rfl, Or.inr ⟨k, a3, hk, rfl, rfl, ?_, g1, g2⟩⟩) (fun r => absurd (by omega) r)
        rw [hh2]
      | succ m ih =>
        intro i a3 hi g1 g2
        have H3 : mdA (mA h2 M a3) M (mFs M kn cu ms kz) a3 := H2.put
        refine c149_19 (by omega) (fun r => absurd r (by omega)) (fun _ => ?_)
        obtain ⟨v, hv⟩ := nI_all (al i)
        have e3 : a3 i = nI v := (g2 i (by omega)).trans hv
        refine c149_26 H3.1 H3.2.1 H3.2.2 (by omega) (by decide) e3 (by omega) rfl ?_
        rw [em1]
        refine ih (i + 1) _ (by omega) (fun y hy => ?_) (fun y hy => ?_)
        · by_cases e4 : y = i
          · subst e4
            rw [pk_us, hv]
          · rw [pk_un (by omega)]
            exact g1 y (by omega)
        · rw [pk_un (by omega)]
          exact g2 y (by omega)
    have := loop 8180 0 al (by omega) (fun y hy => absurd hy (by omega)) (fun y _ => rfl)
    rw [mA_self H2] at this
    exact this
  · rw [tB_f e]
    exact c149_5 (by omega) (fun r => absurd rfl r) (fun _ => c149_8 ⟨rfl, Or.inl ⟨e, rfl, rfl⟩⟩)
set_option maxHeartbeats 1000000 in
theorem t_ragain (H : mdA h M (mFs M kn cu ms kz) al) {hs : Nat → Int32} (Hh : h (M + 2) = some (.inl (3, 4, .inl hs))) (hb : ∀ k, k < 4 → hs k = nI 0 ∨ hs k = nI 1) (x : Int32) : ipC sc (d + 2) 150 [.ref M, .int x] h z 0 0 (fun o h2 z2 => z2 = z ∧ (((∀ k, k < 4 → x = nI k → hs k = nI 0) ∧ o = some (.int (nI 0)) ∧ h2 = h) ∨ ∃ k a2, k < 4 ∧ x = nI k ∧ hs k = nI 1 ∧ o = some (.int (nI 1)) ∧ h2 = mA h M a2 ∧ (∀ y, y < 8180 → a2 y = al (8180 * (k + 1) + y)) ∧ ∀ y, 8180 ≤ y → a2 y = al y)) := by
  obtain ⟨a, rfl⟩ := nI_all x
  refine ipC_mk [some (.ref M), some (.int (nI a)), none] rfl (Nat.le_of_ble_eq_true rfl) ?_
  refine c150_0 (Nat.zero_le _) (Nat.zero_le _) (t_isIn (k := 4) _ (by omega)) (kI ?_)
  by_cases e : isN (nI a) 4
  · rw [tB_t e]
    obtain ⟨k, hk, e⟩ := e
    rw [e]
    refine c150_5 (by omega) (fun r => absurd r (by decide)) (fun _ => ?_)
    rcases hb k hk with hv | hv
    · refine c150_8 H.1 rfl Hh (by omega) (by decide) hv (by omega) (fun r => absurd rfl r) (fun _ => c150_17 ⟨rfl, Or.inl ⟨fun k2 q1 q2 => ?_, rfl, rfl⟩⟩)
      have := nI_inj q2 (by omega) (by omega)
      subst this
      exact hv
    · refine c150_8 H.1 rfl Hh (by omega) (by decide) hv (by omega) (fun _ => c150_19 ?_) (fun r => absurd (show ¬ (1 : Nat) = 0 by decide) r)
      have loop : ∀ (m i : Nat) (a3 : Nat → Int32), i + m = 8180 → (∀ y, y < i → a3 y = al (8180 * (k + 1) + y)) → (∀ y, i ≤ y → a3 y = al y) → ip sc (ipC sc (d + 1)) 150 0 0 (fun o h2 z2 => z2 = z ∧ (((∀ k2, k2 < 4 → nI k = nI k2 → hs k2 = nI 0) ∧ o = some (.int (nI 0)) ∧ h2 = h) ∨ ∃ k2 a2, k2 < 4 ∧ nI k = nI k2 ∧ hs k2 = nI 1 ∧ o = some (.int (nI 1)) ∧ h2 = mA h M a2 ∧ (∀ y, y < 8180 → a2 y = al (8180 * (k2 + 1) + y)) ∧ ∀ y, 8180 ≤ y → a2 y = al y)) 21 [some (.ref M), some (.int (nI k)), some (.int (nI i))] [] (mA h M a3) z 0 0 := by
        intro m
        induction m with
        | zero =>
          intro i a3 hi g1 g2
          have : i = 8180 := by omega
          subst this
          exact c150_21 (by omega) (fun _ => c150_54 ⟨rfl, Or.inr ⟨k, a3, hk, rfl, hv, rfl, rfl, g1, g2⟩⟩) (fun r => absurd (by omega) r)
        | succ m ih =>
          intro i a3 hi g1 g2
          have H3 : mdA (mA h M a3) M (mFs M kn cu ms kz) a3 := H.put
          refine c150_21 (by omega) (fun r => absurd r (by omega)) (fun _ => ?_)
          obtain ⟨v, hv2⟩ := nI_all (al (8180 * (k + 1) + i))
          have e3 : a3 (8180 * (k + 1) + i) = nI v := (g2 _ (by omega)).trans hv2
          refine c150_28 H3.1 H3.2.1 H3.2.2 (by omega) (by decide) e3 (by omega) rfl ?_
          rw [em1]
          refine ih (i + 1) _ (by omega) (fun y hy => ?_) (fun y hy => ?_)
          · by_cases e4 : y = i
            · subst e4
              rw [pk_us, hv2]
            · rw [pk_un e4]
              exact g1 y (by omega)
          · rw [pk_un (by omega)]
            exact g2 y (by omega)
      have := loop 8180 0 al (by omega) (fun y hy => absurd hy (by omega)) (fun y _ => rfl)
      rw [mA_self H] at this
      exact this
  · rw [tB_f e]
    exact c150_5 (by omega) (fun _ => c150_17 ⟨rfl, Or.inl ⟨fun k hk q => absurd ⟨k, hk, q⟩ e, rfl, rfl⟩⟩) (fun r => absurd rfl r)
end REF
