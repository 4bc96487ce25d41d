/-! the reference's nim and best -/
section REF
variable {sc : ipSc} {d z M p t0 : Nat} {h : HP} {kn ms kz : Int32} {t : Cur} {al : Nat → Int32} {P : PosT}
theorem t_now {fs : List Value} (H : mdA h M fs al) (h0 : al 0 = nI t0) : ipC sc (d + 2) 94 [.ref M] h z 0 0 (qI (nI (4 + 332 * t0)) h z) := by
  refine ipC_mk [some (.ref M)] rfl (Nat.le_of_ble_eq_true rfl) ?_
  refine c94_0 H.1 H.2.1 H.2.2 (by decide) (by decide) h0 (Nat.zero_le _) (Nat.zero_le _) (ipC_mk [some (.int (nI t0))] rfl (Nat.le_of_ble_eq_true rfl) (c93_0 ⟨rfl, rfl, rfl⟩)) (kI (c94_9 ⟨rfl, rfl, rfl⟩))
theorem t_livesOf {fs : List Value} (H : mdA h M fs al) (HR : rowIs al p P) (hp : p + 332 ≤ 52000) : ipC sc (d + 1) 118 [.ref M, .int (nI p)] h z 0 0 (qI (nI P.1.sum) h z) := by
  have hB := HR.2.2.2.2.2.1
  refine ipC_mk [some (.ref M), some (.int (nI p)), none, none] rfl (Nat.le_of_ble_eq_true rfl) (c118_0 ?_)
  have loop : ∀ (m s : Nat), s + m = P.1.length → ip sc (ipC sc d) 118 0 0 (qI (nI P.1.sum) h z) 4 [some (.ref M), some (.int (nI p)), some (.int (nI (P.1.take s).sum)), some (.int (nI s))] [] h z 0 0 := by
    intro m
    induction m with
    | zero =>
      intro s hs
      refine c118_4 H.1 H.2.1 H.2.2 (by omega) (by decide) (v9 := P.1.length) HR.1.1 (by omega) (by omega) (fun _ => c118_35 ?_) (fun r => absurd (by omega) r)
      rw [List.take_of_length_le (by omega)]
      exact ⟨rfl, rfl, rfl⟩
    | succ m ih =>
      intro s hs
      have hx := gD (d := 0) (by omega : s < P.1.length)
      refine c118_4 H.1 H.2.1 H.2.2 (by omega) (by decide) (v9 := P.1.length) HR.1.1 (by omega) (by omega) (fun r => absurd r (by omega)) (fun _ => ?_)
      refine c118_16 H.1 H.2.1 H.2.2 (by omega) (by decide) (HR.li hx) ?_
      have := ih (s + 1) (by omega)
      rw [List.take_succ, hx, List.sum_append] at this
      exact this
  exact loop P.1.length 0 (by omega)
/-- nim, as both answer it -/
def nimI (P : PosT) : Int32 := if P.1.sum ≤ 9 then nI (val P) else -1
def bestI (P : PosT) : Int32 := if P.1.sum ≤ 9 then fzI P (mvs P) 0 else -1
def rnQ (h : HP) (M z : Nat) (al : Nat → Int32) (x : Int32) : ipQ := fun o h2 z2 => o = some (.int x) ∧ z2 = z ∧ mfr M h h2 ∧ ∃ al2 kn2 t2 ms2 kz2, mdl h2 M al2 kn2 t2 ms2 kz2 ∧ ∀ y, y < 40900 → al2 y = al y
theorem t_rnim (H : mdl h M al kn t ms kz) (h0 : al 0 = nI t0) (ht : t0 ≤ 24) (HR : rowIs al (4 + 332 * t0) P) (hv : vld P) (hs : P.1.sum < 1000) : ipC sc (d + 2 * 9 + 9) 147 [.ref M] h z 0 0 (rnQ h M z al (nimI P)) := by
  refine ipC_mk [some (.ref M)] rfl (Nat.le_of_ble_eq_true rfl) ?_
  refine c147_0 H.1.1 (Nat.zero_le _) (Nat.zero_le _) (t_now (d := d + 24) H.1 h0) (kI ?_)
  refine c147_5 H.1.1 (Nat.zero_le _) (Nat.zero_le _) (t_livesOf (d := d + 25) H.1 HR (by omega)) (kI ?_)
  refine c147_8 (by omega) (fun r => ?_) (fun r => c147_13 (b147_26 ?_))
  · refine c147_17 H.1.1 (Nat.zero_le _) (Nat.zero_le _) (t_now (d := d + 24) H.1 h0) (kI ?_)
    refine c147_22 H.1.1 (Nat.zero_le _) (Nat.zero_le _) (wo_all 9 (Nat.le_refl _) d z M 0 (4 + 332 * t0) h al kn t ms kz P H HR hv r (by omega) (by omega)) ?_
    rintro o h2 z2 ⟨rfl, rfl, hf, al2, kn2, t2, ms2, kz2, H2, ha⟩
    refine c147_26 ?_
    unfold nimI
    rw [if_pos r]
    exact ⟨rfl, rfl, hf, al2, kn2, t2, ms2, kz2, H2, fun y hy => ha y (by omega)⟩
  · unfold nimI
    rw [if_neg r]
    exact ⟨rfl, rfl, mfr.rf, al, kn, t, ms, kz, H, fun _ _ => rfl⟩
set_option maxHeartbeats 1000000 in
theorem t_rbest (H : mdl h M al kn t ms kz) (h0 : al 0 = nI t0) (ht : t0 ≤ 24) (HR : rowIs al (4 + 332 * t0) P) (hv : vld P) (hs : P.1.sum < 1000) (hw : wB P) (hrow : ∀ f u i v j s, legal P f u i v j s → rowB (doMv P f u i v j s)) : ipC sc (d + 2 * 9 + 9) 148 [.ref M] h z 0 0 (rnQ h M z al (bestI P)) := by
  have hp : 4 + 332 * t0 + 332 ≤ 40900 := by omega
  refine ipC_mk [some (.ref M), none, none, none, none, none, none, none, none, none] rfl (Nat.le_of_ble_eq_true rfl) ?_
  refine c148_0 H.1.1 (Nat.zero_le _) (Nat.zero_le _) (t_now (d := d + 24) H.1 h0) (kI ?_)
  refine c148_4 H.1.1 (Nat.zero_le _) (Nat.zero_le _) (t_livesOf (d := d + 25) H.1 HR (by omega)) (kI ?_)
  refine c148_10 (by omega) (fun r => ?_) (fun r => c148_15 ?_)
  · have hb : bestI P = fzI P (mvs P) 0 := if_pos r
    rw [hb]
    refine c148_17 H.1.1 (Nat.zero_le _) (Nat.zero_le _) (t_ahead (d := d + 25) H.1.1) ?_
    rintro o h2 z2 ⟨rfl, rfl, rfl⟩
    have loop : ∀ (m : Nat) (S : List MvT) (k : Nat) (h3 : HP) (al3 : Nat → Int32) (kn3 : Int32) (t3 : Cur) (ms3 kz3 : Int32) (o3 o4 o5 o6 o7 o8 o9 : Option Value), (S.filter (cF P)).length ≤ m → (∃ dn, mvs P = dn ++ S.filter (cF P)) → atS P t3 ms3 S → mdl h3 M al3 kn3 t3 ms3 kz3 → mfr M h h3 → (∀ y, y < 40900 → al3 y = al y) → fzI P (S.filter (cF P)) k = fzI P (mvs P) 0 → ip sc (ipC sc (d + 2 * 9 + 8)) 148 0 0 (rnQ h M z2 al (fzI P (mvs P) 0)) 23 [some (.ref M), some (.int (nI (4 + 332 * t0))), some (.int (nI k)), o3, o4, o5, o6, o7, o8, o9] [] h3 z2 0 0 := by
      intro m
      induction m with
      | zero =>
        intro S k h3 al3 kn3 t3 ms3 kz3 o3 o4 o5 o6 o7 o8 o9 hm hdn St H3 hf3 ha3 hans
        have hS : S.filter (cF P) = [] := List.length_eq_zero_iff.mp (by omega)
        have HR3 : rowIs al3 (4 + 332 * t0) P := HR.off fun x _ h2 => ha3 x (by omega)
        refine c148_23 H3.1.1 (Nat.zero_le _) (Nat.zero_le _) (t_nextC (d := d + 21) H3.1 HR3 (by omega) hv.1 hw St) ?_
        rintro o h4 z4 ⟨rfl, ⟨rfl, e, t4, ms4, rfl⟩ | ⟨rfl, t4, s4, S4, e, -, -⟩⟩
        · refine c148_28 (by omega) (fun _ => c148_143 ?_) (fun r => absurd rfl r)
          rw [hS] at hans
          rw [← hans]
          exact ⟨rfl, rfl, hf3.cc, al3, kn3, t4, ms4, kz3, H3.cc, ha3⟩
        · rw [hS] at e
          cases e
      | succ m ih =>
        intro S k h3 al3 kn3 t3 ms3 kz3 o3 o4 o5 o6 o7 o8 o9 hm hdn St H3 hf3 ha3 hans
        have HR3 : rowIs al3 (4 + 332 * t0) P := HR.off fun x _ h2 => ha3 x (by omega)
        refine c148_23 H3.1.1 (Nat.zero_le _) (Nat.zero_le _) (t_nextC (d := d + 21) H3.1 HR3 (by omega) hv.1 hw St) ?_
        rintro o h4 z4 ⟨rfl, ⟨rfl, e, t4, ms4, rfl⟩ | ⟨rfl, t4, s4, S4, e, St4, rfl⟩⟩
        · refine c148_28 (by omega) (fun _ => c148_143 ?_) (fun r => absurd rfl r)
          rw [e] at hans
          rw [← hans]
          exact ⟨rfl, rfl, hf3.cc, al3, kn3, t4, ms4, kz3, H3.cc, ha3⟩
        · obtain ⟨f, u, i, v, j⟩ := t4
          obtain ⟨dn, hdn⟩ := hdn
          have hmem : ((f, u, i, v, j), s4) ∈ mvs P := by rw [hdn, e]; simp
          have hL := mvs_legal hmem
          have hsum := mv_sum hL
          rw [e] at hans
          have hstep : fzI P (((f, u, i, v, j), s4) :: S4.filter (cF P)) k = if val (doMv P f u i v j s4) = 0 then nI k else fzI P (S4.filter (cF P)) (k + 1) := rfl
          rw [hstep] at hans
          have hvle := val_le (P := doMv P f u i v j s4)
          refine c148_28 (by omega) (fun r => absurd r (by omega)) (fun _ => ?_)
          have H4 := H3.cc (t2 := (f, u, i, v, j)) (ms2 := nI s4)
          refine c148_31 (v_fs1_6 := f) (v_fs1_7 := u) (v_fs1_8 := i) (v_fs1_9 := v) (v_fs1_10 := j) (v_fs1_11 := s4) H4.1.1 rfl rfl rfl rfl rfl rfl (Nat.zero_le _) (Nat.zero_le _) t_workRow (kI ?_)
          have hfar : far (4 + 332 * t0) (40900 + 332 * 0) := ⟨Or.inl (by omega), by omega, by omega⟩
          refine c148_72 H4.1.1 (Nat.zero_le _) (Nat.zero_le _) (t_joinsL (d := d + 21) H4.1 HR3 hfar hL hv.1 hw (hrow _ _ _ _ _ _ hL)) (kWI fun a5 h5 => c148_86 (Nat.zero_le _) (Nat.zero_le _) t_workRow (kI ?_))
          have H5 := H4.aa (al2 := a5)
          refine c148_93 H5.1.1 (Nat.zero_le _) (Nat.zero_le _) (wo_all 9 (Nat.le_refl _) d z4 M 1 (40900 + 332 * 0) _ a5 _ _ _ _ _ H5 h5.1 (vld_mv hv hL) (by omega) (by omega) (by omega)) ?_
          rintro o h6 z6 ⟨rfl, rfl, hf6, al6, kn6, t6, ms6, kz6, H6, ha6⟩
          have ha6b : ∀ y, y < 40900 → al6 y = al y := fun y hy => by rw [ha6 y (by omega), h5.2 y (by omega), ha3 y hy]
          have hf6b : mfr M h h6 := (hf3.cc.aa).tr hf6
          refine c148_97 (by omega) (fun r2 => ?_) (fun r2 => c148_100 ?_)
          · rw [if_neg r2] at hans
            refine c148_102 H6.1.1 rfl ?_
            exact ih S4 (k + 1) (mC h6 M kn6 (f, u, i, v, j) (nI s4) kz6) al6 kn6 (f, u, i, v, j) (nI s4) kz6 _ _ _ _ _ _ _ (by rw [e, List.length_cons] at hm; omega) ⟨dn ++ [((f, u, i, v, j), s4)], by rw [hdn, e]; simp⟩ St4 H6.cc hf6b.cc ha6b hans
          · rw [if_pos (Decidable.not_not.mp r2)] at hans
            rw [← hans]
            exact ⟨rfl, rfl, hf6b, al6, kn6, t6, ms6, kz6, H6, ha6b⟩
    exact loop (mvs P).length (stR P (rem P cur0)) 0 _ al kn cur0 (-1) _ _ _ _ _ _ _ _ (Nat.le_refl _) ⟨[], rfl⟩ (Or.inl ⟨rfl, rfl, rfl⟩) H.cc mfr.rf.cc (fun _ _ => rfl) rfl
  · unfold bestI
    rw [if_neg r]
    exact ⟨rfl, rfl, mfr.rf, al, kn, t, ms, kz, H, fun _ _ => rfl⟩
end REF
