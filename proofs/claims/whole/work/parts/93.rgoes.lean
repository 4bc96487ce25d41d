/-! the reference's goesTo, moves, join, begins, image, again -/
section REF
variable {sc : ipSc} {d z M n t : Nat} {h : HP} {al : Nat → Int32} {mv : Nat → MvT} {kn ms kz : Int32} {cu : Cur} {P : PosT}
theorem dropc {α : Type} {l l2 : List α} {k : Nat} {x : α} (h : l.drop k = x :: l2) : l[k]? = some x ∧ l.drop (k + 1) = l2 ∧ k < l.length := by
  have h1 : l[k]? = some x := by rw [← List.head?_drop, h]; rfl
  refine ⟨h1, ?_, lt_some h1⟩
  have h2 := drop_cons h1
  rw [h] at h2
  exact (List.cons.inj h2).2.symm
theorem t_goesTo (H : mdA h M (mFs M kn cu ms kz) al) (h0 : al 0 = nI t) (ht : t ≤ 24) (HR : rowIs al (4 + 332 * t) P) (hok : posOK P) (hw : wB P) (hL : (mvs P).length ≤ 1280000) (x : Int32) : ipC sc (d + 6) 131 [.ref M, .int x] h z 0 0 (fun o h2 z2 => z2 = z ∧ ((o = some (.int (nI 0)) ∧ aK P x = none ∧ ∃ t2 ms2, h2 = mC h M kn t2 ms2 kz) ∨ (o = some (.int (nI 1)) ∧ ∃ c s, aK P x = some (c, s) ∧ h2 = mC h M kn c (nI s) kz))) := by
  generalize hQ : (fun (o : Option Value) (h2 : HP) (z2 : Nat) => z2 = z ∧ ((o = some (.int (nI 0)) ∧ aK P x = none ∧ ∃ t2 ms2, h2 = mC h M kn t2 ms2 kz) ∨ (o = some (.int (nI 1)) ∧ ∃ c s, aK P x = some (c, s) ∧ h2 = mC h M kn c (nI s) kz))) = Q0
  have hcc : ∀ c1 m1 c2 m2, mC (mC h M kn c1 m1 kz) M kn c2 m2 kz = mC h M kn c2 m2 kz := fun _ _ _ _ => hup_hup
  have HC : ∀ c1 m1, mdA (mC h M kn c1 m1 kz) M (mFs M kn c1 m1 kz) al := fun c1 m1 => ⟨hup_eq, rfl, hup_ne (by omega) H.2.2⟩
  refine ipC_mk [some (.ref M), some (.int x), none, none] rfl (Nat.le_of_ble_eq_true rfl) ?_
  refine b131_0 H.1 (Nat.zero_le _) (Nat.zero_le _) (t_ahead (d := d + 4) H.1) ?_
  rintro o h2 z2 ⟨rfl, ez, rfl⟩
  obtain rfl := ez.symm
  by_cases hx : x < 0
  · refine b131_4 (fun _ => b131_12 (b131_13 (b131_16 (fun _ => b131_40 rfl ?_) (fun r => absurd hx r)))) (fun r => absurd hx r)
    rw [← hQ]
    refine ⟨rfl, Or.inl ⟨rfl, ?_, _, _, rfl⟩⟩
    unfold aK
    rw [if_pos hx]
  · obtain ⟨k, hk, rfl⟩ := nI_of hx
    refine b131_4 (fun r => absurd r hx) (fun _ => c131_8 (c131_13 ?_))
    have loop : ∀ (j i : Nat) (S : List MvT) (c3 : Cur) (m3 : Int32), i + j = k + 1 → i ≤ (mvs P).length → S.filter (cF P) = (mvs P).drop i → atS P c3 m3 S → (1 ≤ i → ∃ s3, m3 = nI s3 ∧ (mvs P)[i - 1]? = some (c3, s3)) → ip sc (ipC sc (d + 5)) 131 0 0 Q0 16 [some (.ref M), some (.int (nI k)), some (.int (nI 1)), some (.int (nI i))] [] (mC h M kn c3 m3 kz) z 0 0 := by
      intro j
      induction j with
      | zero =>
        intro i S c3 m3 hi hle hS St hlast
        obtain ⟨s3, rfl, hs3⟩ := hlast (by omega)
        refine c131_16 (by omega) (by omega) (fun _ => c131_40 rfl ?_) (fun r => absurd (by omega) r)
        rw [← hQ]
        refine ⟨rfl, Or.inr ⟨rfl, c3, s3, aK_some (by omega) ?_, rfl⟩⟩
        rw [← hs3, show i - 1 = k by omega]
      | succ j ih =>
        intro i S c3 m3 hi hle hS St hlast
        refine c131_16 (by omega) (by omega) (fun r => absurd r (by omega)) (fun _ => ?_)
        refine c131_21 (by omega) (fun r => absurd r (by decide)) (fun _ => ?_)
        refine c131_25 (HC c3 m3).1 (Nat.zero_le _) (Nat.zero_le _) (t_now (d := d + 3) (HC c3 m3) h0) (kI ?_)
        refine c131_30 (HC c3 m3).1 (Nat.zero_le _) (Nat.zero_le _) (t_nextC (d := d) (HC c3 m3) HR (by omega) hok hw St) ?_
        rintro o h4 z4 ⟨ez, ⟨rfl, e, t4, ms4, rfl⟩ | ⟨rfl, t4, s4, S4, e, St4, rfl⟩⟩ <;> obtain rfl := ez.symm
        · rw [hcc]
          have hn : aK P (nI k) = none := aK_none fun k2 q1 q2 => by
            have := nI_inj q1 (by omega) q2
            subst this
            rw [hS] at e
            rw [List.getElem?_eq_none_iff]
            have := List.drop_eq_nil_iff.mp e
            omega
          have fin : ∀ o3, ip sc (ipC sc (d + 5)) 131 0 0 Q0 40 [some (.ref M), some (.int (nI k)), some (.int (nI 0)), o3] [] (mC h M kn t4 ms4 kz) z 0 0 := fun o3 => c131_40 rfl (by
            rw [← hQ]
            exact ⟨rfl, Or.inl ⟨rfl, hn, _, _, rfl⟩⟩)
          refine c131_33 (c131_16 (by omega) (by omega) (fun _ => fin _) (fun _ => c131_21 (by omega) (fun _ => fin _) (fun r => absurd rfl r)))
        · rw [hcc]
          rw [hS] at e
          obtain ⟨e1, e2, e3⟩ := dropc e
          refine c131_33 (ih (i + 1) S4 t4 (nI s4) (by omega) (by omega) e2.symm St4 (fun _ => ⟨s4, rfl, ?_⟩))
          rw [Nat.add_sub_cancel]
          exact e1
    exact loop (k + 1) 0 (stR P (rem P cur0)) cur0 (-1) (by omega) (Nat.zero_le _) rfl (Or.inl ⟨rfl, rfl, rfl⟩) (fun q => absurd q (by omega))
theorem t_rmoves (H : mdA h M (mFs M kn cu ms kz) al) (h0 : al 0 = nI t) (ht : t ≤ 24) (HR : rowIs al (4 + 332 * t) P) (hok : posOK P) (hw : wB P) : ipC sc (d + 6) 130 [.ref M] h z 0 0 (fun o h2 z2 => z2 = z ∧ o = some (.int (nI (mvs P).length)) ∧ ∃ t2 ms2, h2 = mC h M kn t2 ms2 kz) := by
  generalize hQ : (fun (o : Option Value) (h2 : HP) (z2 : Nat) => z2 = z ∧ o = some (.int (nI (mvs P).length)) ∧ ∃ t2 ms2, h2 = mC h M kn t2 ms2 kz) = Q0
  have hcc : ∀ c1 m1 c2 m2, mC (mC h M kn c1 m1 kz) M kn c2 m2 kz = mC h M kn c2 m2 kz := fun _ _ _ _ => hup_hup
  have HC : ∀ c1 m1, mdA (mC h M kn c1 m1 kz) M (mFs M kn c1 m1 kz) al := fun c1 m1 => ⟨hup_eq, rfl, hup_ne (by omega) H.2.2⟩
  refine ipC_mk [some (.ref M), none] rfl (Nat.le_of_ble_eq_true rfl) ?_
  refine c130_0 H.1 (Nat.zero_le _) (Nat.zero_le _) (t_ahead (d := d + 4) H.1) ?_
  rintro o h2 z2 ⟨rfl, ez, rfl⟩
  obtain rfl := ez.symm
  have loop : ∀ (j i : Nat) (S : List MvT) (c3 : Cur) (m3 : Int32), (S.filter (cF P)).length = j → i + j = (mvs P).length → atS P c3 m3 S → ip sc (ipC sc (d + 5)) 130 0 0 Q0 6 [some (.ref M), some (.int (nI i))] [] (mC h M kn c3 m3 kz) z 0 0 := by
    intro j
    induction j with
    | zero =>
      intro i S c3 m3 hj hi St
      refine c130_6 (HC c3 m3).1 (Nat.zero_le _) (Nat.zero_le _) (t_now (d := d + 3) (HC c3 m3) h0) (kI ?_)
      refine c130_11 (HC c3 m3).1 (Nat.zero_le _) (Nat.zero_le _) (t_nextC (d := d) (HC c3 m3) HR (by omega) hok hw St) ?_
      rintro o h4 z4 ⟨ez, ⟨rfl, e, t4, ms4, rfl⟩ | ⟨rfl, t4, s4, S4, e, St4, rfl⟩⟩ <;> obtain rfl := ez.symm
      · refine c130_14 (by omega) (fun _ => c130_23 ?_) (fun r => absurd rfl r)
        rw [← hQ, show i = (mvs P).length by omega]
        exact ⟨rfl, rfl, t4, ms4, hcc _ _ _ _⟩
      · rw [e] at hj
        cases hj
    | succ j ih =>
      intro i S c3 m3 hj hi St
      refine c130_6 (HC c3 m3).1 (Nat.zero_le _) (Nat.zero_le _) (t_now (d := d + 3) (HC c3 m3) h0) (kI ?_)
      refine c130_11 (HC c3 m3).1 (Nat.zero_le _) (Nat.zero_le _) (t_nextC (d := d) (HC c3 m3) HR (by omega) hok hw St) ?_
      rintro o h4 z4 ⟨ez, ⟨rfl, e, t4, ms4, rfl⟩ | ⟨rfl, t4, s4, S4, e, St4, rfl⟩⟩ <;> obtain rfl := ez.symm
      · rw [e] at hj
        cases hj
      · refine c130_14 (by omega) (fun r => absurd r (by decide)) (fun _ => c130_17 ?_)
        rw [hcc]
        rw [e, List.length_cons] at hj
        exact ih (i + 1) S4 t4 (nI s4) (by omega) (by omega) St4
  exact loop (mvs P).length 0 (stR P (rem P cur0)) cur0 (-1) rfl (by omega) (Or.inl ⟨rfl, rfl, rfl⟩)
set_option maxHeartbeats 1000000 in
theorem t_rjoin {fs : List Value} (H : mdA h M fs al) (R : rgm al 0 n t mv) (ok : gOK n t mv) (hP : gP n mv t = P) (x1 x2 x3 x4 x5 x6 : Int32) : ipC sc (d + 7) 129 [.ref M, .int x1, .int x2, .int x3, .int x4, .int x5, .int x6] h z 0 0 (fun o h2 z2 => z2 = z ∧ ((o = some (.int (-1)) ∧ ¬ lawful P x1 x2 x3 x4 x5 x6 ∧ h2 = h) ∨ (lawful P x1 x2 x3 x4 x5 x6 ∧ o = some (.int (nI P.1.length)) ∧ ∃ a2, h2 = mA h M a2 ∧ rgm a2 0 n (t + 1) (pu mv t (xMv x1 x2 x3 x4 x5 x6)) ∧ ∀ x, 8180 ≤ x → a2 x = al x))) := by
  have iv := ok.iv (Nat.le_refl t)
  have HR := R.row (Nat.le_refl t)
  have ht := ok.t23
  rw [hP] at iv HR
  have hok := iv.2.2.2.1
  have hw := iv.wB
  have hs := HR.2.2.2.2.2.sm
  have h0 := R.1
  generalize hQ : (fun (o : Option Value) (h2 : HP) (z2 : Nat) => z2 = z ∧ ((o = some (.int (-1)) ∧ ¬ lawful P x1 x2 x3 x4 x5 x6 ∧ h2 = h) ∨ (lawful P x1 x2 x3 x4 x5 x6 ∧ o = some (.int (nI P.1.length)) ∧ ∃ a2, h2 = mA h M a2 ∧ rgm a2 0 n (t + 1) (pu mv t (xMv x1 x2 x3 x4 x5 x6)) ∧ ∀ x, 8180 ≤ x → a2 x = al x))) = Q0
  have f40 : ∀ o0 o1 o2 o3 o4 o5 o6 o7 : Option Value, ¬ lawful P x1 x2 x3 x4 x5 x6 → ip sc (ipC sc (d + 6)) 129 0 0 Q0 40 [o0, o1, o2, o3, o4, o5, o6, o7] [] h z 0 0 := fun o0 o1 o2 o3 o4 o5 o6 o7 r => b129_40 (by rw [← hQ]; exact ⟨rfl, Or.inl ⟨rfl, r, rfl⟩⟩)
  have f100 : ∀ o0 o1 o2 o3 o4 o5 o6 o7 : Option Value, ¬ lawful P x1 x2 x3 x4 x5 x6 → ip sc (ipC sc (d + 6)) 129 0 0 Q0 100 [o0, o1, o2, o3, o4, o5, o6, o7] [] h z 0 0 := fun o0 o1 o2 o3 o4 o5 o6 o7 r => b129_100 (by rw [← hQ]; exact ⟨rfl, Or.inl ⟨rfl, r, rfl⟩⟩)
  refine ipC_mk [some (.ref M), some (.int x1), some (.int x2), some (.int x3), some (.int x4), some (.int x5), some (.int x6), none] rfl (Nat.le_of_ble_eq_true rfl) ?_
  refine b129_0 H.1 (Nat.zero_le _) (Nat.zero_le _) (t_isCorner (d := d + 1) H h0 (by omega) HR x1 x2 x3) (kI ?_)
  by_cases h1 : isCo P x1 x2 x3
  · rw [tB_t h1]
    refine b129_7 (fun r => absurd r (by decide)) (fun _ => ?_)
    refine b129_10 H.1 (Nat.zero_le _) (Nat.zero_le _) (t_isCorner (d := d + 1) H h0 (by omega) HR x1 x4 x5) (kI ?_)
    by_cases h2 : isCo P x1 x4 x5
    · rw [tB_t h2]
      refine b129_19 (fun r => absurd r (by decide)) (fun _ => ?_)
      obtain ⟨f, u, i, hf, hu, hi, rfl, rfl, rfl⟩ := h1
      obtain ⟨f2, v, j, hf2, hv, hj, e1, rfl, rfl⟩ := h2
      have q1 := hs.1
      have := nI_inj e1 (by omega) (by omega)
      subst this
      have q2 := hs.2.1 f
      have q3 := hs.2.2 f u
      have q4 := hs.2.2 f v
      have q5 := HR.2.2.2.2.2.2.1
      have hsl := sides_lt (t := (f, u, i, v, j)) hw
      have hwf := hw f
      have li := lawful_iff (x6 := x6) hs hf hu hi hv hj
      obtain ⟨s6, rfl⟩ := nI_all x6
      have n70 : u ≤ v → (u = v → i ≤ j) → ip sc (ipC sc (d + 6)) 129 0 0 Q0 70 [some (.ref M), some (.int (nI f)), some (.int (nI u)), some (.int (nI i)), some (.int (nI v)), some (.int (nI j)), some (.int (nI s6)), none] [.int (nI (sidesP P (f, u, i, v, j)))] h z 0 0 := fun r1 r2 => by
        refine c129_70 (Nat.zero_le _) (Nat.zero_le _) (t_isIn (d := d + 5) _ (by omega)) (kI ?_)
        by_cases hi6 : isN (nI s6) (sidesP P (f, u, i, v, j))
        · rw [tB_t hi6]
          refine c129_79 (by omega) (fun r => absurd r (by decide)) (fun _ => ?_)
          refine c129_82 H.1 (Nat.zero_le _) (Nat.zero_le _) (t_now (d := d + 4) H h0) (kI ?_)
          refine c129_87 H.1 (Nat.zero_le _) (Nat.zero_le _) (t_canT (d := d + 3) H HR (by omega) hok (decide_eq_true ⟨hf, hu, hi, hv, hj⟩)) (kI ?_)
          cases hc : canT P (f, u, i, v, j)
          · exact c129_97 (by decide) (fun r => absurd rfl r) (fun _ => f100 _ _ _ _ _ _ _ _ (fun q => by have := (li.mp q).2.2.1; rw [hc] at this; cases this))
          · have hlw := li.mpr ⟨r1, r2, hc, hi6⟩
            obtain ⟨hlg, -⟩ := lawful_x hs hw hlw
            have hlg2 := hlg
            rw [← hP] at hlg2
            have td := t_does (sc := sc) (d := d) (z := z) H R ok hlg2
            have ee : xMv (nI f) (nI u) (nI i) (nI v) (nI j) (nI s6) = xMv (nI f) (nI u) (nI i) (nI v) (nI j) (nI s6) := rfl
            refine c129_97 (by decide) (fun _ => ?_) (fun r => absurd (show ¬ (1 : Nat) = 0 by decide) r)
            have hv6 : ∀ y : Int32, nI (uI y) = y := nI_uI
            simp only [xMv, hv6] at td
            refine c129_102 H.1 (Nat.zero_le _) (Nat.zero_le _) td (kWI fun a5 h5 => c129_115 ?_)
            rw [← hQ, hP]
            exact ⟨rfl, Or.inr ⟨hlw, rfl, a5, rfl, h5⟩⟩
        · rw [tB_f hi6]
          exact c129_79 (by omega) (fun _ => f100 _ _ _ _ _ _ _ _ (fun q => hi6 (li.mp q).2.2.2)) (fun r => absurd rfl r)
      have n42 : u ≤ v → (u = v → i ≤ j) → ip sc (ipC sc (d + 6)) 129 0 0 Q0 42 [some (.ref M), some (.int (nI f)), some (.int (nI u)), some (.int (nI i)), some (.int (nI v)), some (.int (nI j)), some (.int (nI s6)), none] [] h z 0 0 := fun r1 r2 => by
        have n70 := n70 r1 r2
        refine c129_42 (by omega) (by omega) (fun r => c129_69 ?_) (fun r => ?_)
        · rw [show sidesP P (f, u, i, v, j) = 1 from if_neg r] at n70
          exact n70
        · have r := Classical.not_not.mp r
          refine c129_48 H.1 H.2.1 (Nat.zero_le _) (Nat.zero_le _) (t_now (d := d + 4) H h0) (kI ?_)
          refine c129_57 (v6 := fl P f) H.2.2 (by omega) (by decide) (HR.fl (gD (d := []) hf)) (by omega) ?_
          have e : sidesP P (f, u, i, v, j) = 1 * 2 ^ (fl P f - 1) := by rw [Nat.one_mul]; exact if_pos r
          rw [pk_shlN (nI (fl P f - 1) &&& 31) (fl P f - 1) (sm32 _ (by omega)) (by rw [← e]; omega), ← e]
          exact n70
      refine c129_22 (by omega) (by omega) (fun r => f40 _ _ _ _ _ _ _ _ (fun q => by have := (li.mp q).1; omega)) (fun r => ?_)
      refine c129_28 (by omega) (by omega) (fun r2 => n42 (by omega) (fun q => absurd q r2)) (fun r2 => ?_)
      exact c129_34 (by omega) (by omega) (fun r3 => n42 (by omega) (fun _ => r3)) (fun r3 => f40 _ _ _ _ _ _ _ _ (fun q => by have := (li.mp q).2.1 (Classical.not_not.mp r2); omega))
    · rw [tB_f h2]
      exact b129_19 (fun _ => f40 _ _ _ _ _ _ _ _ (fun q => h2 q.co.2)) (fun r => absurd rfl r)
  · rw [tB_f h1]
    exact b129_7 (fun _ => f40 _ _ _ _ _ _ _ _ (fun q => h1 q.co.1)) (fun r => absurd rfl r)
end REF
