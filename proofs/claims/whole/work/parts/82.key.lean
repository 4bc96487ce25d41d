/-! the class's Solver: worthOfKey -/
theorem mvp_app {P : PosT} {A B : List Cur} : mvp P (A ++ B) = mvp P A ++ mvp P B := by
  unfold mvp
  rw [List.map_append, List.flatten_append]
theorem pb_pc {h : HP} {b le : Nat} {B : PB} (H : pbIs h b le 0 B) : pbIs h b le 4294967296 B := by
  obtain ⟨h0, sa, wf, ff, lf, ⟨g0, g1⟩, h2⟩ := H
  refine ⟨h0, sa, wf, ff, lf, ⟨?_, g1⟩, h2⟩
  rw [g0]
  have : nI 4294967296 = nI 0 := by decide
  unfold pFs
  rw [this]
theorem mvO.mM {h : HP} {m : Nat} {t : Cur} {x : Int32} : mvO (mM h m t x) m := ⟨_, _, _, _, _, _, hup_eq⟩
/-- what decoding makes is small -/
theorem key_small {N1 N2 n : Nat} (hk : keyOK N1 N2 n) : (kP N1 N2).1.length ≤ 20 ∧ (kP N1 N2).2.length ≤ 20 ∧ (pW (kP N1 N2)).length ≤ 20 ∧ (pC (kP N1 N2)).length ≤ 20 ∧ wB (kP N1 N2) ∧ dcd (keyC N1 N2) = ((kP N1 N2).1, (kP N1 N2).2, [], []) := by
  obtain ⟨k1, k2, k3, k4, k5, k6, k7⟩ := hk
  have hI := dcI_fold (l := keyC N1 N2) dcI_0
  have hl : (keyC N1 N2).length ≤ 20 := by
    unfold keyC
    rw [List.length_append]
    have := cds_len (n := 10) (N := N1)
    have := cds_len (n := 10) (N := N2)
    omega
  obtain ⟨j1, j2, j3, j4, -⟩ := hI
  have e : dcd (keyC N1 N2) = ((kP N1 N2).1, (kP N1 N2).2, [], []) := by
    unfold kP
    simp only
    rw [← k3, ← k4]
  have e2 : ((keyC N1 N2).foldl dcStep (([], [], [], []), fun _ => none)).1 = ((kP N1 N2).1, (kP N1 N2).2, [], []) := e
  rw [e2] at j1 j2 j3 j4
  rw [bC_c] at j2
  rw [bW_c] at j3
  simp only at j1 j4
  have hW : (kP N1 N2).2.flatten = pW (kP N1 N2) := rfl
  have hC : (kP N1 N2).2.flatten.flatten = pC (kP N1 N2) := rfl
  rw [hW] at j3
  rw [hC] at j2
  refine ⟨by omega, by omega, by omega, by omega, fun f => ?_, e⟩
  unfold fl
  by_cases q : f < (kP N1 N2).2.length
  · have h2 := lSt_s (gD (d := []) q)
    have h3 := lSt_le (l := (kP N1 N2).2) (f := f + 1)
    rw [hW] at h3
    omega
  · rw [List.getD_eq_getElem?_getD, List.getElem?_eq_none (by omega)]
    exact Nat.zero_le _
theorem cap_mv {R : PosT} (hv : vld R) (h1 : R.1.length ≤ 20) (h2 : R.2.length ≤ 20) (h3 : (pW R).length ≤ 20) (h4 : (pC R).length ≤ 20) {f u i v j s : Nat} (hL : legal R f u i v j s) : capC (doMv R f u i v j s) ∧ ∀ w ∈ (doMv R f u i v j s).1, w ≤ 3 := by
  have k1 := sizes_mv hL
  have k2 := corners_mv hL hv.2.1
  have k3 : (doMv R f u i v j s).1.length = R.1.length + 1 := by
    obtain ⟨Fd, x, y, a, b, q1, q2, q3, q4, q5, q6⟩ := legal_at hL
    rw [doMv_1 q1 q2 q3 q4 q5, lvA_len]
  exact ⟨⟨by omega, by omega, by omega, by omega⟩, (posOK_mv hL hv.2.1 hv.1).2⟩
set_option maxHeartbeats 2000000 in
theorem wk_of {sc : ipSc} {n : Nat} (ih : ∀ m, m + 1 = n → WDs sc m) : WKs sc n := by
  intro d z S dep h N1 N2 H hk hdep hd8
  obtain ⟨s1, s2, s3, s4, hwB, hdcd⟩ := key_small hk
  obtain ⟨n1, n2, -, -, hv, hle, hsum⟩ := id hk
  have hVf := Vf_at n1 n2
  generalize hR : kP N1 N2 = R at s1 s2 s3 s4 hwB hdcd hv hle hsum hVf
  have hval : val R ≤ R.1.sum := val_le
  have hmul : R.1.sum ≤ n := hsum
  have hvsl : ∀ m ∈ mvs R, val (mvD R m) < 10 := fun m hm => by
    obtain ⟨⟨f, u, i, v, j⟩, s⟩ := m
    have h1 := mv_sum (mvs_legal hm)
    have h2 := val_le (P := doMv R f u i v j s)
    show val (doMv R f u i v j s) < 10
    omega
  obtain ⟨c1, c2, c3, c4, c5, ⟨r6, c6, d6⟩, ⟨r7, c7, d7⟩, c8, c9, ⟨lf, c10⟩, c11, c12⟩ := id H
  generalize hQ : sQ S dep (5 * dep + 5) h z (val R) = Q0
  refine ipC_mk [some (.ref S), some (.long (lN N1)), none, some (.long (lN N2)), none, some (.int (nI dep)), none, none, none, none, none, none, none] rfl (Nat.le_of_ble_eq_true rfl) ?_
  have hmo := c4
  obtain ⟨hi0, lo0, wo0, ⟨g0, -⟩, -⟩ := id c4
  refine c69_0 c1 rfl g0 (Nat.zero_le _) (Nat.zero_le _) (t_mfind (d := d + 2 * n + 4) c4) ?_
  rintro o h2 z2 ⟨rfl, rfl, rfl | ⟨rfl, hV16⟩⟩
  · refine b69_9 (fun _ => ?_) (fun r => absurd rfl r)
    refine c69_20 (by omega) (fun _ => ?_) (fun r => absurd (by omega) r)
    obtain ⟨pc0, B0, hB0⟩ := c11 dep (by omega)
    refine c69_29 c1 rfl c6 (by omega) (by decide) (d6 dep (by omega)) rfl (Nat.zero_le _) (Nat.zero_le _) (t_decode (d := d + 2 * n + 2) c1 c10 hB0 (by omega) n1 n2) ?_
    rintro o h3 z3 ⟨rfl, rfl, hf3, l3, B3⟩
    have H3 : slv h3 S := H.lv (by omega) hf3 l3 ⟨_, _, B3⟩
    rw [hdcd] at B3
    have L3 : plIs h3 (S + 29 + 6 * dep) 1 4294967296 R := pb_pc B3
    obtain ⟨x1, x2, x3, x4, x5, x6, hm3⟩ := H3.2.2.2.2.2.2.2.2.2.2.2 dep (by omega)
    have c73 : h3 (S + 25) = some (.inl (4, 9, .inr (.inr (.inr (.inr r7))))) := by rw [hf3 _ (by omega) (by omega)]; exact c7
    refine c69_46 H3.1 rfl c73 (by omega) (by decide) (d7 dep (by omega)) hm3 (Nat.zero_le _) (Nat.zero_le _) (t_rewind (d := d + 2 * n + 5) hm3) ?_
    rintro o h4 z4 ⟨rfl, rfl, rfl⟩
    have sf3 : sfr S dep (5 * dep + 5) h2 h3 := .of (by omega) fun x hx => hf3 x (by omega) (by omega)
    refine c69_63 ?_
    -- the end: the least worth that wasn't met is kept
    have fin : ∀ (h5 : HP) (o5 o6 o7 o8 o10 o11 o12 : Option Value), slv h5 S → sfr S dep (5 * dep + 5) h2 h5 → ip sc (ipC sc (d + 2 * n + 6)) 69 0 0 Q0 147 [some (.ref S), some (.long (lN N1)), none, some (.long (lN N2)), none, o5, o6, o7, o8, some (.int (nI (bitsL ((mvs R).map (fun m => val (mvD R m)))))), o10, o11, o12] [] h5 z4 0 0 := by
      intro h5 o5 o6 o7 o8 o10 o11 o12 H5 sf5
      have hb : ∀ v ∈ (mvs R).map (fun m => val (mvD R m)), v < 10 := fun v hv => by
        obtain ⟨m, hm, rfl⟩ := List.mem_map.mp hv
        exact hvsl m hm
      refine c69_147 (Nat.zero_le _) (Nat.zero_le _) (t_ntz (d := d + 2 * n + 5) (bits_lt hb)) (kI ?_)
      rw [tz_mex hb, ← val_mex]
      obtain ⟨hi5, lo5, wo5, ⟨g5, -⟩, -⟩ := id H5.2.2.2.1
      refine c69_154 rfl H5.1 rfl g5 (Nat.zero_le _) (Nat.zero_le _) (by rw [← hVf]; exact t_mkeep (d := d + 2 * n + 4) H5.2.2.2.1 (by rw [hVf]; omega)) ?_
      rintro o h6 z6 ⟨rfl, rfl, hf6, M6⟩
      refine c69_167 ?_
      rw [← hQ]
      exact ⟨rfl, rfl, sf5.tr (.of (by omega) fun x hx => hf6 x (by omega)), H5.mo hf6 M6⟩
    -- the moves
    have loop : ∀ (m : Nat) (pre L : List Cur) (h5 : HP) (xs : Int32) (o11 o12 : Option Value), L.length ≤ m → prs R cur0 = pre ++ L → slv h5 S → sfr S dep (5 * dep + 5) h2 h5 → plIs h5 (S + 29 + 6 * dep) 1 4294967296 R → wk R h5 (S + 34 + 6 * dep) L xs → ip sc (ipC sc (d + 2 * n + 6)) 69 0 0 Q0 66 [some (.ref S), some (.long (lN N1)), none, some (.long (lN N2)), none, some (.int (nI dep)), some (.int (-1)), some (.ref (S + 29 + 6 * dep)), some (.ref (S + 34 + 6 * dep)), some (.int (nI (bitsL ((mvp R pre).map (fun m => val (mvD R m)))))), some (.int (nI pre.length)), o11, o12] [] h5 z4 0 0 := by
      intro m
      induction m with
      | zero =>
        intro pre L h5 xs o11 o12 hm hpre H5 sf5 L5 W5
        have hL0 : L = [] := List.length_eq_zero_iff.mp (by omega)
        subst hL0
        have hpl := prs_len (P := R)
        have hpl2 : (pC R).length * (pC R).length ≤ 400 := Nat.mul_le_mul s4 s4
        have hlen : pre.length ≤ 400 := by
          have := congrArg List.length hpre
          rw [List.length_append] at this
          omega
        refine c69_66 (by omega) (fun r => absurd r (by omega)) (fun _ => ?_)
        refine c69_73 L5.ob (Nat.zero_le _) (Nat.zero_le _) (t_nextPair2 (d := d + 2 * n + 2) L5 hv.1 (Or.inr (by omega)) W5) ?_
        rintro o h6 z6 ⟨rfl, t6, rfl, ⟨rfl, -⟩ | ⟨rfl, -, -, e⟩⟩
        · refine c69_80 (by omega) (fun _ => ?_) (fun r => absurd rfl r)
          have he : mvp R pre = mvs R := by
            rw [mvs_prs, hpre, List.append_nil]
          rw [he]
          exact fin _ _ _ _ _ _ _ _ (H5.tr (by omega) (fun x hx => hup_ne hx rfl) .mM) (sf5.tr (.of (by omega) fun x hx => hup_ne (by omega) rfl))
        · cases e
      | succ m ihm =>
        intro pre L h5 xs o11 o12 hm hpre H5 sf5 L5 W5
        have hpl := prs_len (P := R)
        have hpl2 : (pC R).length * (pC R).length ≤ 400 := Nat.mul_le_mul s4 s4
        have hlen : pre.length + L.length ≤ 400 := by
          have := congrArg List.length hpre
          rw [List.length_append] at this
          omega
        refine c69_66 (by omega) (fun r => absurd r (by omega)) (fun _ => ?_)
        refine c69_73 L5.ob (Nat.zero_le _) (Nat.zero_le _) (t_nextPair2 (d := d + 2 * n + 2) L5 hv.1 (Or.inr (by omega)) W5) ?_
        rintro o h6 z6 ⟨rfl, t6, rfl, ⟨rfl, e⟩ | ⟨rfl, hth, hcan, e⟩⟩
        · refine c69_80 (by omega) (fun _ => ?_) (fun r => absurd rfl r)
          have he : mvp R pre = mvs R := by
            rw [mvs_prs, hpre, e, List.append_nil]
          rw [he]
          exact fin _ _ _ _ _ _ _ _ (H5.tr (by omega) (fun x hx => hup_ne hx rfl) .mM) (sf5.tr (.of (by omega) fun x hx => hup_ne (by omega) rfl))
        · obtain ⟨f, u, i, v, j⟩ := t6
          have H6 : slv (mM h5 (S + 34 + 6 * dep) (f, u, i, v, j) xs) S := H5.tr (by omega) (fun x hx => hup_ne hx rfl) .mM
          have sf6 : sfr S dep (5 * dep + 5) h2 (mM h5 (S + 34 + 6 * dep) (f, u, i, v, j) xs) := sf5.tr (.of (by omega) fun x hx => hup_ne (by omega) rfl)
          have L6 : plIs (mM h5 (S + 34 + 6 * dep) (f, u, i, v, j) xs) (S + 29 + 6 * dep) 1 4294967296 R := L5.mM (Or.inr (by omega))
          have hmem : (f, u, i, v, j) ∈ prs R cur0 := by rw [hpre, e]; simp
          obtain ⟨t1, t2, t3, t4, t5⟩ := of_decide_eq_true hth
          simp only at t1 t2 t3 t4 t5
          have hsl := sides_lt (t := (f, u, i, v, j)) hwB
          refine c69_80 (by omega) (fun r => absurd r (by omega)) (fun _ => ?_)
          refine c69_83 L6.ob (Nat.zero_le _) (Nat.zero_le _) (t_sides (d := d + 2 * n + 4) L6 hwB mM_eq t1 t2 t4) (kI (c69_90 ?_))
          -- the sides
          have sides : ∀ (m2 s : Nat) (h7 : HP) (xs7 : Int32), s + m2 = sidesP R (f, u, i, v, j) → slv h7 S → sfr S dep (5 * dep + 5) h2 h7 → plIs h7 (S + 29 + 6 * dep) 1 4294967296 R → h7 (S + 34 + 6 * dep) = some (.inr (2, [.int (nI f), .int (nI u), .int (nI i), .int (nI v), .int (nI j), .int xs7])) → ip sc (ipC sc (d + 2 * n + 6)) 69 0 0 Q0 95 [some (.ref S), some (.long (lN N1)), none, some (.long (lN N2)), none, some (.int (nI dep)), some (.int (-1)), some (.ref (S + 29 + 6 * dep)), some (.ref (S + 34 + 6 * dep)), some (.int (nI (bitsL ((mvp R pre ++ (sdL R (f, u, i, v, j)).take s).map (fun m => val (mvD R m)))))), some (.int (nI pre.length)), some (.int (nI (sidesP R (f, u, i, v, j)))), some (.int (nI s))] [] h7 z6 0 0 := by
            intro m2
            induction m2 with
            | zero =>
              intro s h7 xs7 hs H7 sf7 L7 hm7
              refine c69_95 (by omega) (by omega) (fun _ => c69_141 ?_) (fun r => absurd (by omega) r)
              have et : (sdL R (f, u, i, v, j)).take s = sdL R (f, u, i, v, j) := List.take_of_length_le (by rw [sdL_len]; omega)
              have ep : mvp R pre ++ sdL R (f, u, i, v, j) = mvp R (pre ++ [(f, u, i, v, j)]) := by
                rw [mvp_app, mvp_cons]
                show _ = _ ++ (_ ++ [])
                rw [List.append_nil]
              rw [et, ep]
              have hlp : (pre ++ [((f, u, i, v, j) : Cur)]).length = pre.length + 1 := by simp
              have := ihm (pre ++ [(f, u, i, v, j)]) (prs R (curN (f, u, i, v, j))) h7 xs7 (some (.int (nI (sidesP R (f, u, i, v, j))))) (some (.int (nI s))) (by rw [e, List.length_cons] at hm; omega) (by rw [hpre, e]; simp) H7 sf7 L7 (wk_at L7.sm hth hm7)
              rw [hlp] at this
              exact this
            | succ m2 ihs =>
              intro s h7 xs7 hs H7 sf7 L7 hm7
              have hL : legal R f u i v j s := prs_legal hmem (by omega)
              have hmv : ((f, u, i, v, j), s) ∈ mvs R := legal_mvs hL
              have hsum2 := mv_sum hL
              obtain ⟨n0, rfl⟩ : ∃ n0, n = n0 + 1 := ⟨n - 1, by omega⟩
              have hvl := hvsl _ hmv
              have hvl : val (doMv R f u i v j s) < 10 := hvl
              obtain ⟨pc5, B5, hB5⟩ := H7.2.2.2.2.1
              obtain ⟨hcap, hlv3⟩ := cap_mv hv s1 s2 s3 s4 hL
              refine c69_95 (by omega) (by omega) (fun r => absurd r (by omega)) (fun _ => ?_)
              have em : hup h7 (S + 34 + 6 * dep) (.inr (2, [.int (nI f), .int (nI u), .int (nI i), .int (nI v), .int (nI j), .int xs7].set 5 (.int (nI s)))) = hup h7 (S + 34 + 6 * dep) (.inr (2, vFs f u i v j s)) := rfl
              have H8 : slv (hup h7 (S + 34 + 6 * dep) (.inr (2, vFs f u i v j s))) S := H7.tr (by omega) (fun x hx => hup_ne hx rfl) ⟨_, _, _, _, _, _, hup_eq⟩
              have L8 : plIs (hup h7 (S + 34 + 6 * dep) (.inr (2, vFs f u i v j s))) (S + 29 + 6 * dep) 1 4294967296 R := L7.off fun x a b => hup_ne (by omega) rfl
              have D8 : pbIs (hup h7 (S + 34 + 6 * dep) (.inr (2, vFs f u i v j s))) (S + 19) 1 pc5 B5 := hB5.off fun x a b => hup_ne (by omega) rfl
              refine c69_102 hm7 rfl H7.1 (by omega) rfl hB5.ob (by omega) (Nat.zero_le _) (Nat.zero_le _) (t_become (d := d + 2 * n0 + 4) D8 L8 (Or.inr (by omega)) hup_eq (Or.inr (by omega)) hL hv.2.1 hv.1 hwB (fun _ => by omega) hcap hlv3) (kB fun h9 hf9 D9 => ?_)
              have H9 : slv h9 S := H8.dr hf9 ⟨_, _, D9⟩
              have L9 : plIs h9 (S + 29 + 6 * dep) 1 4294967296 R := L8.off fun x a b => hf9 x (by omega)
              have m9 : h9 (S + 34 + 6 * dep) = some (.inr (2, vFs f u i v j s)) := by rw [hf9 _ (by omega)]; exact hup_eq
              have sf9 : sfr S dep (5 * dep + 5) h2 h9 := (sf7.tr (.of (by omega) fun x hx => hup_ne (by omega) rfl)).tr (.of (by omega) fun x hx => hf9 x (by omega))
              have hvm := vld_mv hv hL
              have hvl2 : val ((doMv R f u i v j s).1, lnP 1 (doMv R f u i v j s).1 [] (doMv R f u i v j s).2) = val (doMv R f u i v j s) := val_ln (L := (doMv R f u i v j s).1) (F := (doMv R f u i v j s).2) hvm
              refine c69_120 H9.1 (Nat.zero_le _) (Nat.zero_le _) (ih n0 rfl d z6 S (dep + 1) _ h9 ((doMv R f u i v j s).1, lnP 1 (doMv R f u i v j s).1 [] (doMv R f u i v j s).2) H9 D9 (vld_ln hvm) lean_ln (by show (doMv R f u i v j s).1.sum ≤ n0; omega) (by omega)) ?_
              rintro o h10 z10 ⟨rfl, rfl, sf10, H10⟩
              rw [hvl2]
              refine c69_131 ?_
              rw [shl_bit _ (by omega), nI_or]
              have eb : bitsL ((mvp R pre ++ (sdL R (f, u, i, v, j)).take s).map (fun m => val (mvD R m))) ||| 2 ^ val (doMv R f u i v j s) = bitsL ((mvp R pre ++ (sdL R (f, u, i, v, j)).take (s + 1)).map (fun m => val (mvD R m))) := by
                have et : (sdL R (f, u, i, v, j)).take (s + 1) = (sdL R (f, u, i, v, j)).take s ++ [((f, u, i, v, j), s)] := by
                  rw [List.take_succ, sdL_at (by omega)]
                  rfl
                rw [et, ← List.append_assoc, List.map_append (l₁ := mvp R pre ++ _)]
                exact bits_s.symm
              rw [eb]
              refine ihs (s + 1) h10 (nI s) (by omega) H10 (sf9.tr (sf10.le (by omega) (by omega))) (L9.off fun x a b => sf10.2.1 x (by omega) (by omega)) ?_
              rw [sf10.2.1 _ (by omega) (by omega)]
              exact m9
          have := sides (sidesP R (f, u, i, v, j)) 0 _ xs (by omega) H6 sf6 L6 mM_eq
          rw [List.take_zero, List.append_nil] at this
          exact this
    have H4 : slv (hup h3 (S + 34 + 6 * dep) (.inr (2, [.int (nI 0), .int (nI 0), .int (nI 0), .int (nI 0), .int (-1), .int (nI 0)]))) S := H3.tr (by omega) (fun x hx => hup_ne hx rfl) ⟨_, _, _, _, _, _, hup_eq⟩
    have L4 : plIs (hup h3 (S + 34 + 6 * dep) (.inr (2, [.int (nI 0), .int (nI 0), .int (nI 0), .int (nI 0), .int (-1), .int (nI 0)]))) (S + 29 + 6 * dep) 1 4294967296 R := L3.off fun x a b => hup_ne (by omega) rfl
    exact loop (prs R cur0).length [] (prs R cur0) _ (nI 0) _ _ (Nat.le_refl _) rfl H4 (sf3.tr (.of (by omega) fun x hx => hup_ne (by omega) rfl)) L4 wk_rewind
  · rw [hVf] at hV16 ⊢
    refine c69_9 (fun e => ?_) (fun _ => c69_17 ?_)
    · exfalso
      have k : nI (val R) < nI 0 := by rw [e]; decide
      rw [nI_ltI (by omega) (by omega)] at k
      omega
    · rw [← hQ]
      exact ⟨rfl, rfl, sfr.rf, H⟩
theorem wd_all {sc : ipSc} : ∀ n, n ≤ 9 → WDs sc n
  | 0, h => wd_of (wk_of fun m q => by omega)
  | n + 1, h => wd_of (wk_of fun m q => by
      have : m = n := by omega
      subst this
      exact wd_all m (by omega))
