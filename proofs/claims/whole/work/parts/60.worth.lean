/-! the reference's worthOf and worthOfOne -/
theorem row_lt {x l : Nat} (h : x < 40900 + 332 * l + 332) : x < 40900 + 332 * (l + 1) := by rw [Nat.mul_add_one, ← Nat.add_assoc]; exact h
theorem row_lt2 {x l : Nat} (h : x < 40900 + 332 * (l + 1)) : x < 40900 + 332 * (l + 2) := Nat.lt_of_lt_of_le h (Nat.add_le_add_left (Nat.mul_le_mul_left _ (Nat.le_succ _)) _)
section REF
variable {sc : ipSc} {d z M p q : Nat} {h : HP} {kn ms kz : Int32} {t : Cur} {al : Nat → Int32} {P : PosT}
theorem mC_self (H : h M = some (.inr (9, mFs M kn t ms kz))) : mC h M kn t ms kz = h := by
  funext x
  unfold mC hup
  split
  · rename_i q
    rw [q, H]
  · rfl
theorem t_ahead (H : h M = some (.inr (9, mFs M kn t ms kz))) : ipC sc (d + 1) 112 [.ref M] h z 0 0 (fun o h2 z2 => o = none ∧ z2 = z ∧ h2 = mC h M kn cur0 (-1) kz) := by
  refine ipC_mk [some (.ref M)] rfl (Nat.le_of_ble_eq_true rfl) ?_
  exact c112_0 H rfl ⟨rfl, rfl, rfl⟩
theorem t_nextC (H : mdA h M (mFs M kn t ms kz) al) (HR : rowIs al p P) (hp : p + 332 ≤ 52000) (hok : posOK P) (hw : wB P) {S : List MvT} (St : atS P t ms S) : ipC sc (d + 5) 114 [.ref M, .int (nI p)] h z 0 0 (fun o h2 z2 => z2 = z ∧ ((o = some (.int (nI 0)) ∧ S.filter (cF P) = [] ∧ ∃ t2 ms2, h2 = mC h M kn t2 ms2 kz) ∨ (o = some (.int (nI 1)) ∧ ∃ t2 s2 S2, S.filter (cF P) = (t2, s2) :: S2.filter (cF P) ∧ atS P t2 (nI s2) S2 ∧ h2 = mC h M kn t2 (nI s2) kz))) := by
  refine ipC_mk [some (.ref M), some (.int (nI p))] rfl (Nat.le_of_ble_eq_true rfl) ?_
  have := t_next (sc := sc) (d := d) (z := z) (kn := kn) (kz := kz) H HR hp hok hw (fun o h2 z2 => z2 = z ∧ ((o = some (.int (nI 0)) ∧ S.filter (cF P) = [] ∧ ∃ t2 ms2, h2 = mC h M kn t2 ms2 kz) ∨ (o = some (.int (nI 1)) ∧ ∃ t2 s2 S2, S.filter (cF P) = (t2, s2) :: S2.filter (cF P) ∧ atS P t2 (nI s2) S2 ∧ h2 = mC h M kn t2 (nI s2) kz))) S.length (Nat.le_refl _) St (fun e t2 ms2 => ⟨rfl, Or.inl ⟨rfl, e, t2, ms2, rfl⟩⟩) (fun t2 s2 S2 e e2 _ _ => ⟨rfl, Or.inr ⟨rfl, t2, s2, S2, e, e2, rfl⟩⟩)
  rw [mC_self H.1] at this
  exact this
theorem t_joinsL {fs : List Value} (H : mdA h M fs al) (HR : rowIs al p P) (hd : far p q) {f u i v j s : Nat} (hL : legal P f u i v j s) (hok : posOK P) (hw : wB P) (hB : rowB (doMv P f u i v j s)) : ipC sc (d + 5) 108 [.ref M, .int (nI p), .int (nI q), .int (nI f), .int (nI u), .int (nI i), .int (nI v), .int (nI j), .int (nI s)] h z 0 0 (qWI (nI P.1.length) h M z (fun a2 => rowIs a2 q (doMv P f u i v j s) ∧ eqOff q al a2)) := by
  obtain ⟨Fd, x, y, a, b, h1, h2, h3, h4, h5, h6⟩ := legal_at hL
  obtain ⟨-, -, hij, -, hs⟩ := hL
  have ha := hok.1 a (mem_pC h1 h2 h4)
  have hb := hok.1 b (mem_pC h1 h3 h5)
  have hsl := sides_lt (t := (f, u, i, v, j)) hw
  unfold cM at h6
  rw [Bool.and_eq_true, decide_eq_true_eq, decide_eq_true_eq] at h6
  have hwf := hw f
  unfold fl at hwf
  rw [getD_of h1] at hwf
  exact t_joins H HR hd h1 h2 h4 h3 h5 hij (gD (d := 0) ha) (gD (d := 0) hb) (posOK_le hok a) (posOK_le hok b) h6.1 h6.2 hwf (by omega) hB
theorem t_workRow {l : Nat} : ipC sc (d + 1) 143 [.int (nI l)] h z 0 0 (qI (nI (40900 + 332 * l)) h z) := by
  refine ipC_mk [some (.int (nI l))] rfl (Nat.le_of_ble_eq_true rfl) ?_
  exact c143_0 ⟨rfl, rfl, rfl⟩
def woQ (h : HP) (M z : Nat) (al : Nat → Int32) (l v : Nat) : ipQ := fun o h2 z2 => o = some (.int (nI v)) ∧ z2 = z ∧ mfr M h h2 ∧ ∃ al2 kn2 t2 ms2 kz2, mdl h2 M al2 kn2 t2 ms2 kz2 ∧ ∀ x, x < 40900 + 332 * l → al2 x = al x
def WO (sc : ipSc) (n : Nat) : Prop := ∀ (d z M l p : Nat) (h : HP) (al : Nat → Int32) (kn : Int32) (t : Cur) (ms kz : Int32) (P : PosT), mdl h M al kn t ms kz → rowIs al p P → vld P → P.1.sum ≤ n → p + 332 ≤ 40900 + 332 * l → l + 3 * n + 1 ≤ 32 → ipC sc (d + 2 * n + 8) 144 [.ref M, .int (nI p), .int (nI l)] h z 0 0 (woQ h M z al l (val P))
def W1 (sc : ipSc) (n : Nat) : Prop := ∀ (d z M l : Nat) (h : HP) (al : Nat → Int32) (kn : Int32) (t : Cur) (ms kz : Int32) (R : PosT), mdl h M al kn t ms kz → rowIs al (40900 + 332 * l) R → vld R → slim R → R.1.sum ≤ n → n ≤ 9 → l + 3 * n ≤ 32 → ipC sc (d + 2 * n + 7) 145 [.ref M, .int (nI l)] h z 0 0 (woQ h M z al (l + 1) (val R))
set_option maxHeartbeats 1000000 in
theorem w1_of {n : Nat} (ih : ∀ m, m + 1 = n → WO sc m) : W1 sc n := by
  intro d z M l h al kn t ms kz R H HR hv hs hn hn9 hl
  have hti := slim_tiny hv hs (by omega)
  have hwB := slim_wB hv hs (by omega)
  have hp : 40900 + 332 * l + 332 ≤ 52000 := by omega
  have hval : val R ≤ R.1.sum := val_le
  have hbnd := slim_b hv hs hn
  have hTl : (txt R).length < 1000 := by rw [txt_len]; omega
  refine ipC_mk [some (.ref M), some (.int (nI l)), none, none, none, none, none, none, none, none, none, none, none] rfl (Nat.le_of_ble_eq_true rfl) ?_
  refine c145_0 (Nat.zero_le _) (Nat.zero_le _) t_workRow (kI ?_)
  obtain ⟨pf, gf, ky0, kf, sz, wf, a1, a2, a3, a4, a5, a6, a7⟩ := H.2.2
  refine c145_4 H.1.1 (Nat.zero_le _) (Nat.zero_le _) (t_writes H.1 a3 HR hp hti hv.1) ?_
  rintro o h2 z2 ⟨rfl, rfl, ky, rfl, hk⟩
  have H2 := H.kk (ky2 := ky) (n := (txt R).length)
  have b3 : mK h M kn t ms ky (txt R).length (M + 8) = some (.inl (2, 72, .inl ky)) := mK_ky
  have b4 : mK h M kn t ms ky (txt R).length (M + 3) = some (.inl (2, 2359296, .inl kf)) := hup_ne (by omega) (hup_ne (by omega) a4)
  have b5 : mK h M kn t ms ky (txt R).length (M + 4) = some (.inl (0, 32768, .inl sz)) := hup_ne (by omega) (hup_ne (by omega) a5)
  have b6 : mK h M kn t ms ky (txt R).length (M + 5) = some (.inl (2, 32768, .inl wf)) := hup_ne (by omega) (hup_ne (by omega) a6)
  have hzz : ∀ a, a < 32768 → ∃ n, sz a = nI n ∧ n ≤ 72 := fun a ha => by obtain ⟨n, q1, q2, -⟩ := a7 a ha; exact ⟨n, q1, q2⟩
  -- what is kept and answered at the end
  have vsl : ∀ m ∈ mvs R, val (mvD R m) < 16 := fun m hm => by
    obtain ⟨⟨f, u, i, v, j⟩, s⟩ := m
    have h1 := mv_sum (mvs_legal hm)
    have h2 := val_le (P := doMv R f u i v j s)
    show val (doMv R f u i v j s) < 16
    omega
  have fin : ∀ (h3 : HP) (al3 : Nat → Int32) (kn3 : Int32) (t3 : Cur) (ms3 kz3 : Int32) (o1 o3 o6 o7 o8 o9 o10 o11 o12 : Option Value), mdl h3 M al3 kn3 t3 ms3 kz3 → mfr M h h3 → (∀ x, x < 40900 + 332 * (l + 1) → al3 x = al x) → ∀ (m k : Nat), k + m = val R → ip sc (ipC sc (d + 2 * n + 6)) 145 0 0 (woQ h M z2 al (l + 1) (val R)) 177 [some (.ref M), o1, some (.int (nI (40900 + 332 * l))), o3, some (.int (nI (bitsL ((mvs R).map (fun m => val (mvD R m)))))), some (.int (nI k)), o6, o7, o8, o9, o10, o11, o12] [] h3 z2 0 0 := by
    intro h3 al3 kn3 t3 ms3 kz3 o1 o3 o6 o7 o8 o9 o10 o11 o12 H3 hf3 ha3 m
    have hbl : bitsL ((mvs R).map (fun m => val (mvD R m))) < 2 ^ 16 := bits_lt fun v hv => by
      obtain ⟨m, hm, rfl⟩ := List.mem_map.mp hv
      exact vsl m hm
    have bit : ∀ k, k < 16 → ((((nI (bitsL ((mvs R).map (fun m => val (mvD R m))))) >>> ((nI k) &&& 31)) &&& (nI 1)) = (nI 1) ↔ k ∈ (mvs R).map (fun m => val (mvD R m))) := fun k hk => by
      rw [bitN (by omega) (by omega)]
      constructor
      · intro e
        have e := (nI_eq (by omega) (by omega)).mp e
        have := bit_mod.mp e
        rw [bits_at] at this
        exact of_decide_eq_true this
      · intro e
        congr 1
        refine bit_mod.mpr ?_
        rw [bits_at]
        exact decide_eq_true e
    induction m with
    | zero =>
      intro k hk
      have ek : k = val R := by omega
      refine c145_177 (fun _ => ?_) (fun r => absurd ((bit k (by omega)).mp (Decidable.not_not.mp r)) ?_)
      · rw [ek]
        refine c145_194 H3.1.1 (Nat.zero_le _) (Nat.zero_le _) (t_keeps (d := d + 2 * n + 3) H3 (HR.off fun x _ h2 => ha3 x (row_lt h2)) hp hti hv (by omega)) ?_
        rintro o h4 z4 ⟨rfl, rfl, hf4, kn4, kz4, H4⟩
        exact c145_201 ⟨rfl, rfl, hf3.tr hf4, al3, kn4, t3, ms3, kz4, H4, ha3⟩
      · rw [ek, val_mex]
        exact mex_not
    | succ m ih2 =>
      intro k hk
      refine c145_177 (fun r => absurd ((bit k (by omega)).mpr ?_) r) (fun _ => c145_188 (ih2 (k + 1) (by omega)))
      refine mex_lt ?_
      rw [← val_mex]
      omega
  -- the moves
  have loop : ∀ (m : Nat) (S dn : List MvT) (h3 : HP) (al3 : Nat → Int32) (kn3 : Int32) (t3 : Cur) (ms3 kz3 : Int32) (o3 o5 o6 o7 o8 o9 o10 o11 o12 : Option Value), (S.filter (cF R)).length ≤ m → mvs R = dn ++ S.filter (cF R) → atS R t3 ms3 S → ip2 o3 = false → mdl h3 M al3 kn3 t3 ms3 kz3 → mfr M h h3 → (∀ x, x < 40900 + 332 * (l + 1) → al3 x = al x) → ip sc (ipC sc (d + 2 * n + 6)) 145 0 0 (woQ h M z2 al (l + 1) (val R)) 42 [some (.ref M), some (.int (nI l)), some (.int (nI (40900 + 332 * l))), o3, some (.int (nI (bitsL (dn.map (fun m => val (mvD R m)))))), o5, o6, o7, o8, o9, o10, o11, o12] [] h3 z2 0 0 := by
    intro m
    induction m with
    | zero =>
      intro S dn h3 al3 kn3 t3 ms3 kz3 o3 o5 o6 o7 o8 o9 o10 o11 o12 hm hmv St ho3 H3 hf3 ha3
      have hS : S.filter (cF R) = [] := List.length_eq_zero_iff.mp (by omega)
      have HR3 : rowIs al3 (40900 + 332 * l) R := HR.off fun x _ h2 => ha3 x (row_lt h2)
      refine c145_42 H3.1.1 (Nat.zero_le _) (Nat.zero_le _) (t_nextC (d := d + 2 * n + 1) H3.1 HR3 hp hv.1 hwB St) ?_
      rintro o h4 z4 ⟨rfl, ⟨rfl, e, t4, ms4, rfl⟩ | ⟨rfl, t4, s4, S4, e, -, -⟩⟩
      · refine c145_47 (by omega) (fun _ => c145_174 ?_) (fun r => absurd rfl r)
        have := fin (mC h3 M kn3 t4 ms4 kz3) al3 kn3 t4 ms4 kz3 (some (.int (nI l))) o3 o6 o7 o8 o9 o10 o11 o12 H3.cc hf3.cc ha3 (val R) 0 (by omega)
        rw [hmv, hS, List.append_nil] at this
        exact this
      · rw [hS] at e
        cases e
    | succ m ih2 =>
      intro S dn h3 al3 kn3 t3 ms3 kz3 o3 o5 o6 o7 o8 o9 o10 o11 o12 hm hmv St ho3 H3 hf3 ha3
      have HR3 : rowIs al3 (40900 + 332 * l) R := HR.off fun x _ h2 => ha3 x (row_lt h2)
      refine c145_42 H3.1.1 (Nat.zero_le _) (Nat.zero_le _) (t_nextC (d := d + 2 * n + 1) H3.1 HR3 hp hv.1 hwB St) ?_
      rintro o h4 z4 ⟨rfl, ⟨rfl, e, t4, ms4, rfl⟩ | ⟨rfl, t4, s4, S4, e, St4, rfl⟩⟩
      · refine c145_47 (by omega) (fun _ => c145_174 ?_) (fun r => absurd rfl r)
        have := fin (mC h3 M kn3 t4 ms4 kz3) al3 kn3 t4 ms4 kz3 (some (.int (nI l))) o3 o6 o7 o8 o9 o10 o11 o12 H3.cc hf3.cc ha3 (val R) 0 (by omega)
        rw [hmv, e, List.append_nil] at this
        exact this
      · obtain ⟨f, u, i, v, j⟩ := t4
        have hmem : ((f, u, i, v, j), s4) ∈ mvs R := by rw [hmv, e]; simp
        have hL := mvs_legal hmem
        have hsum := mv_sum hL
        obtain ⟨n2, rfl⟩ : ∃ n2, n = n2 + 1 := ⟨n - 1, by omega⟩
        have hvl := vsl _ hmem
        have hvl : val (doMv R f u i v j s4) < 16 := hvl
        refine c145_47 (by omega) (fun r => absurd r (by omega)) (fun _ => ?_)
        have H4 := H3.cc (t2 := (f, u, i, v, j)) (ms2 := nI s4)
        refine c145_50 (v_fs1_6 := f) (v_fs1_7 := u) (v_fs1_8 := i) (v_fs1_9 := v) (v_fs1_10 := j) (v_fs1_11 := s4) H4.1.1 rfl rfl rfl rfl rfl rfl (Nat.zero_le _) (Nat.zero_le _) t_workRow (kI ?_)
        have hfar : far (40900 + 332 * l) (40900 + 332 * (l + 1)) := ⟨by omega, by omega, by omega⟩
        refine c145_94 H4.1.1 (Nat.zero_le _) (Nat.zero_le _) (t_joinsL (d := d + 2 * n2 + 3) H4.1 HR3 hfar hL hv.1 hwB (slim_row hv hs (by omega) hL)) (kWI fun a5 h5 => c145_109 (Nat.zero_le _) (Nat.zero_le _) t_workRow (kI ?_))
        have H5 := H4.aa (al2 := a5)
        refine c145_118 H5.1.1 (Nat.zero_le _) (Nat.zero_le _) (ih n2 rfl d z4 M (l + 2) (40900 + 332 * (l + 1)) _ a5 _ _ _ _ _ H5 h5.1 (vld_mv hv hL) (by omega) (by omega) (by omega)) ?_
        rintro o h6 z6 ⟨rfl, rfl, hf6, al6, kn6, t6, ms6, kz6, H6, ha6⟩
        refine c145_124 rfl ho3 H6.1.1 rfl ?_
        rw [shl_bit _ hvl, nI_or]
        have hd2 : bitsL (dn.map (fun m => val (mvD R m))) ||| 2 ^ val (doMv R f u i v j s4) = bitsL ((dn ++ [((f, u, i, v, j), s4)]).map (fun m => val (mvD R m))) := by
          rw [List.map_append]
          exact bits_s.symm
        rw [hd2]
        refine ih2 S4 (dn ++ [((f, u, i, v, j), s4)]) (mC h6 M kn6 (f, u, i, v, j) (nI s4) kz6) al6 kn6 (f, u, i, v, j) (nI s4) kz6 o3 _ _ _ _ _ _ _ _ ?_ ?_ St4 ho3 H6.cc ?_ ?_
        · rw [e, List.length_cons] at hm
          omega
        · rw [hmv, e]
          simp
        · exact ((hf3.cc.aa).tr hf6).cc
        · intro x hx
          rw [ha6 x (row_lt2 hx), h5.2 x (Or.inl hx), ha3 x hx]
  have start : ∀ o3, ip2 o3 = false → ip sc (ipC sc (d + 2 * n + 6)) 145 0 0 (woQ h M z2 al (l + 1) (val R)) 35 [some (.ref M), some (.int (nI l)), some (.int (nI (40900 + 332 * l))), o3, none, none, none, none, none, none, none, none, none] [] (mK h M kn t ms ky (txt R).length) z2 0 0 := fun o3 ho3 => by
    refine c145_35 ho3 H2.1.1 (Nat.zero_le _) (Nat.zero_le _) (t_ahead (d := d + 2 * n + 5) H2.1.1) ?_
    rintro o h3 z3 ⟨rfl, rfl, rfl⟩
    exact loop (mvs R).length (stR R (rem R cur0)) [] _ al kn cur0 (-1) _ o3 none none none none none none none none (Nat.le_refl _) rfl (Or.inl ⟨rfl, rfl, rfl⟩) ho3 H2.cc mfr.rf.kk.cc (fun x _ => rfl)
  refine c145_10 H2.1.1 (Nat.zero_le _) (Nat.zero_le _) (t_placeOf (d := d + 2 * n + 5) H2.1.1 b3 b4 b5 hzz hTl) ?_
  rintro o h3 z3 ⟨rfl, rfl, rfl | ⟨a, ha, rfl, hn72, hsz⟩⟩
  · exact b145_14 (fun _ => start _ rfl) (fun r => absurd (by decide) r)
  · refine c145_14 (by omega) (fun r => absurd r (Nat.not_lt_zero _)) (fun _ => ?_)
    obtain ⟨sn, s1, s2, s3⟩ := a7 a ha
    refine c145_19 H2.1.1 rfl b5 ha (by decide) s1 (by omega) (fun _ => start _ rfl) (fun r => ?_)
    obtain ⟨Q, y1, y2, y3, y4, y5, y6⟩ := s3 (by omega)
    have heq : val Q = val R := by
      refine txt_val y2 hti y1 hv ?_
      rcases hsz with hsz | ⟨hsz, hby⟩
      · rw [s1] at hsz
        have := (nI_eq (by omega) (by omega)).mp hsz
        omega
      · rw [s1] at hsz
        have hsn := (nI_eq (by omega) (by omega)).mp hsz
        refine List.ext_getElem? fun k => ?_
        by_cases hk2 : k < (txt R).length
        · have e1 : (txt R)[k]? = some (txt R)[k] := List.getElem?_eq_getElem hk2
          have e2 : (txt Q)[k]? = some (txt Q)[k] := List.getElem?_eq_getElem (by omega)
          have e3 := hk k _ (by omega) e1
          have e4 := y4 k _ e2
          rw [hby k (by omega), e3] at e4
          rw [e1, e2, e4]
        · rw [List.getElem?_eq_none (by omega), List.getElem?_eq_none (by omega)]
    refine c145_28 H2.1.1 rfl b6 ha (by decide) y5 ?_
    rw [heq]
    exact ⟨rfl, rfl, mfr.rf.kk, al, kn, t, ms, _, H2, fun x _ => rfl⟩
end REF
