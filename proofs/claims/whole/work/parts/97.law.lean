/-! the law's loop -/
section OKS
variable {A : Ab}
theorem ok_begin (ok : abOK A) (x : Int32) : abOK (aBegin A x).2 := by
  by_cases e : isN x 9 ∧ x ≠ 0
  · have ea : aBegin A x = (nI 1, ((uI x, 0, A.1.2.2), A.2)) := cI_t e
    rw [ea]
    obtain ⟨⟨k, hk, rfl⟩, hne⟩ := e
    have hk0 : k ≠ 0 := fun q => hne (by rw [q]; rfl)
    rw [uI_nI (by omega)]
    exact ⟨⟨by show 1 ≤ k; omega, by show k ≤ 8; omega, fun i hi => absurd hi (Nat.not_lt_zero _)⟩, ok.2⟩
  · have ea : aBegin A x = (nI 0, A) := cI_f e
    rw [ea]
    exact ok
theorem ok_do (ok : abOK A) {m : MvT} (hl : lgl (aP A) m) : abOK (doA A m) := ⟨ok.1.pu hl, ok.2⟩
theorem ok_join (ok : abOK A) (x1 x2 x3 x4 x5 x6 : Int32) : abOK (aJoin A x1 x2 x3 x4 x5 x6).2 := by
  have iv := ok.1.iv (Nat.le_refl _)
  by_cases e : lawful (aP A) x1 x2 x3 x4 x5 x6
  · have ea : aJoin A x1 x2 x3 x4 x5 x6 = (nI (aP A).1.length, doA A (xMv x1 x2 x3 x4 x5 x6)) := cI_t e
    rw [ea]
    exact ok_do ok (lawful_x iv.cap.2.1.sm iv.wB e).1
  · have ea : aJoin A x1 x2 x3 x4 x5 x6 = (-1, A) := cI_f e
    rw [ea]
    exact ok
theorem ok_move (ok : abOK A) (x : Int32) : abOK (aMove A x).2 := by
  unfold aMove
  split
  · exact ok
  · rename_i m e
    exact ok_do ok (aK_legal e)
theorem ok_undo (ok : abOK A) : abOK (aUndo A).2 := by
  unfold aUndo
  split
  · exact ok
  · exact ⟨ok.1.le (Nat.sub_le _ _), ok.2⟩
theorem ok_image (ok : abOK A) (x : Int32) : abOK (aImage A x).2 := by
  by_cases e : isN x 4
  · have ea : aImage A x = (nI 1, (A.1, fun k => if k = uI x then some A.1 else A.2 k)) := cI_t e
    rw [ea]
    refine ⟨ok.1, fun k G hk q => ?_⟩
    have q : (if k = uI x then some A.1 else A.2 k) = some G := q
    split at q
    · cases q
      exact ok.1
    · exact ok.2 k G hk q
  · have ea : aImage A x = (nI 0, A) := cI_f e
    rw [ea]
    exact ok
theorem ok_again (ok : abOK A) (x : Int32) : abOK (aAgain A x).2 := by
  by_cases e : isN x 4
  · have ea : aAgain A x = (match A.2 (uI x) with
      | none => (nI 0, A)
      | some G => (nI 1, (G, A.2))) := cI_t e
    rw [ea]
    obtain ⟨k, hk, rfl⟩ := e
    rw [uI_nI (by omega)]
    split
    · exact ok
    · rename_i G q
      exact ⟨ok.2 k G hk q, ok.2⟩
  · have ea : aAgain A x = (nI 0, A) := cI_f e
    rw [ea]
    exact ok
end OKS
theorem mdl.of {h h2 : HP} {M : Nat} {al : Nat → Int32} {kn ms kz : Int32} {cu : Cur} (H : mdl h M al kn cu ms kz) (he : ∀ x, M ≤ x → x < M + 9 → h2 x = h x) : mdl h2 M al kn cu ms kz := by
  obtain ⟨⟨c1, c2, c3⟩, c4, pf, gf, ky, kf, sz, wf, a1, a2, a3, a4, a5, a6, a7⟩ := H
  exact ⟨⟨(he _ (by omega) (by omega)).trans c1, c2, (he _ (by omega) (by omega)).trans c3⟩, c4, pf, gf, ky, kf, sz, wf, (he _ (by omega) (by omega)).trans a1, (he _ (by omega) (by omega)).trans a2, (he _ (by omega) (by omega)).trans a3, (he _ (by omega) (by omega)).trans a4, (he _ (by omega) (by omega)).trans a5, (he _ (by omega) (by omega)).trans a6, a7⟩
theorem rfs.of {h h2 : HP} {M : Nat} {A : Ab} (H : rfs h M A) (he : ∀ x, M ≤ x → x < M + 9 → h2 x = h x) : rfs h2 M A := by
  obtain ⟨al, kn, cu, ms, kz, hs, H1, Hh, R, I⟩ := H
  exact ⟨al, kn, cu, ms, kz, hs, H1.of he, (he _ (by omega) (by omega)).trans Hh, R, I⟩
theorem rfs.ob {h : HP} {M : Nat} {A : Ab} (H : rfs h M A) : ∃ fs, h M = some (.inr (9, fs)) := by
  obtain ⟨al, kn, cu, ms, kz, hs, H1, Hh, R, I⟩ := H
  exact ⟨_, H1.1.1⟩
theorem lawK {L i : Nat} (hL : L ≤ 3584) (hi : i ≤ 3584) : (Int32.ofNat L - 7 < nI i) ↔ L < i + 7 := by
  by_cases h7 : 7 ≤ L
  · obtain ⟨n, rfl⟩ : ∃ n, L = n + 7 := ⟨L - 7, by omega⟩
    have e : Int32.ofNat (n + 7) - 7 = nI n := by
      show nI (n + 7) - 7 = nI n
      rw [← nI_add]
      exact Int32.add_sub_cancel _ _
    rw [e, nI_ltI (by omega) (by omega)]
    omega
  · refine ⟨fun _ => by omega, fun _ => ?_⟩
    have hn : Int32.ofNat L - 7 < 0 := by
      match L, h7 with
      | 0, _ => decide
      | 1, _ => decide
      | 2, _ => decide
      | 3, _ => decide
      | 4, _ => decide
      | 5, _ => decide
      | 6, _ => decide
      | n + 7, q => exact absurd (by omega) q
    have h1 := Int32.lt_iff_toInt_lt.mp hn
    refine Int32.lt_iff_toInt_lt.mpr ?_
    rw [nI_toInt (by omega)]
    have h0 : (0 : Int32).toInt = 0 := by decide
    omega
set_option maxHeartbeats 4000000 in
theorem law_loop {sc : ipSc} {T : Nat} (hL : sc.2.1 ≤ 3584) : ∀ (m j : Nat) (A : Ab) (sol : Option Nat) (h : HP) (z c s : Nat), j + m = sc.2.1 / 7 → cls h z T A sol → rfs h (T + 150) A → abOK A → c + 83 * wS sol ≤ 242 + 25 * j → s + 15202 * wS sol ≤ 2497170 + 164 * j → ip sc (ipC sc 100) 152 600000 7302250 lawQ 18 [some (.ref sc.1), some (.ref T), some (.ref (T + 150)), some (.int (nI (7 * j)))] [] h z c s := by
  intro m
  induction m with
  | zero =>
    intro j A sol h z c s hj H R ok hc hs
    refine b152_18w (fun _ => b152_548w rfl) (fun r => absurd ((lawK hL (by omega)).mpr (by omega)) r)
  | succ m ih =>
    intro j A sol h z c s hj H R ok hc hs
    have hj7 : 7 * j + 7 ≤ sc.2.1 := by omega
    refine b152_18w (fun r => absurd ((lawK hL (by omega)).mp r) (by omega)) (fun _ => ?_)
    obtain ⟨im, c1, -⟩ := id H
    have v0 : vp_in (nI (7 * j)) sc.2.1 := vp_in_nI (by omega) (by omega)
    have v1 : vp_in (nI (7 * j) + 1) sc.2.1 := by
      rw [nI_1]
      exact vp_in_nI (by omega) (by omega)
    have vv : ∀ k, k < 7 → vp_in (nI (7 * j) + nI k) sc.2.1 := fun k hk => by
      rw [nI_add]
      exact vp_in_nI (by omega) (by omega)
    have v2 : vp_in (nI (7 * j) + 2) sc.2.1 := vv 2 (by omega)
    have v3 : vp_in (nI (7 * j) + 3) sc.2.1 := vv 3 (by omega)
    have v4 : vp_in (nI (7 * j) + 4) sc.2.1 := vv 4 (by omega)
    have v5 : vp_in (nI (7 * j) + 5) sc.2.1 := vv 5 (by omega)
    have v6 : vp_in (nI (7 * j) + 6) sc.2.1 := vv 6 (by omega)
    have nxt : ∀ (A2 : Ab) (sol2 : Option Nat) (h4 h5 : HP) (z5 c5 s5 : Nat), cls h4 z5 T A2 sol2 → rfs h5 (T + 150) A2 → (∀ x, x < T + 150 ∨ T + 150 + 9 ≤ x → h5 x = h4 x) → abOK A2 → c5 + 83 * wS sol2 ≤ 242 + 25 * (j + 1) → s5 + 15202 * wS sol2 ≤ 2497170 + 164 * (j + 1) → ip sc (ipC sc 100) 152 600000 7302250 lawQ 542 [some (.ref sc.1), some (.ref T), some (.ref (T + 150)), some (.int (nI (7 * j)))] [] h5 z5 c5 s5 := by
      intro A2 sol2 h4 h5 z5 c5 s5 H4 R5 hf5 ok5 hc5 hs5
      refine b152_542w ?_
      have e : nI (7 * j) + 7 = nI (7 * (j + 1)) := nI_add (7 * j) 7
      rw [e]
      exact ih (j + 1) A2 sol2 h5 z5 c5 s5 (by omega) (H4.ref ok5 hf5) R5 ok5 hc5 hs5
    obtain ⟨k, hk, ek⟩ := pk_andE (sc.2.2 (nI (7 * j)).toNatClampNeg) (m := 15) 4 (by decide)
    match k, hk, ek with
    | 0, _, ek =>
      refine b152_27w (tgt := 112) v0 (by rw [ek]; decide) ?_
      refine b152_112gw (mc := 0) (ms := 0) v1 c1 (by omega) (by omega) (c_begin (d := 73) H ok _) ?_
      rintro o h4 z4 ⟨rfl, hz4, hf4, H4⟩
      have R4 := R.of hf4
      obtain ⟨fs4, o4⟩ := R4.ob
      refine b152_121gw (mc := 0) (ms := 0) v1 o4 (by omega) (by omega) (r_begin (d := 73) R4 ok _) ?_
      rintro o h5 z5 ⟨rfl, rfl, hf5, R5⟩
      exact b152_130w (fun _ => nxt _ _ h4 h5 _ _ _ H4 R5 hf5 (ok_begin ok _) (by omega) (by omega)) (fun r => absurd rfl r)
    | 1, _, ek =>
      refine b152_27w (tgt := 135) v0 (by rw [ek]; decide) ?_
      refine b152_135gw (mc := 0) (ms := 0) v1 c1 (by omega) (by omega) (c_count (d := 73) H ok _) ?_
      rintro o h4 z4 ⟨rfl, hz4, hf4, H4⟩
      have R4 := R.of hf4
      obtain ⟨fs4, o4⟩ := R4.ob
      refine b152_144gw (mc := 0) (ms := 0) v1 o4 (by omega) (by omega) (r_count (d := 73) R4 ok _) ?_
      rintro o h5 z5 ⟨rfl, rfl, hf5, R5⟩
      exact b152_153w (fun _ => nxt _ _ h4 h5 _ _ _ H4 R5 hf5 (ok) (by omega) (by omega)) (fun r => absurd rfl r)
    | 2, _, ek =>
      refine b152_27w (tgt := 158) v0 (by rw [ek]; decide) ?_
      refine b152_158gw (mc := 0) (ms := 0) v1 c1 (by omega) (by omega) (c_walls (d := 73) H ok _) ?_
      rintro o h4 z4 ⟨rfl, hz4, hf4, H4⟩
      have R4 := R.of hf4
      obtain ⟨fs4, o4⟩ := R4.ob
      refine b152_167gw (mc := 0) (ms := 0) v1 o4 (by omega) (by omega) (r_walls (d := 73) R4 ok _) ?_
      rintro o h5 z5 ⟨rfl, rfl, hf5, R5⟩
      exact b152_176w (fun _ => nxt _ _ h4 h5 _ _ _ H4 R5 hf5 (ok) (by omega) (by omega)) (fun r => absurd rfl r)
    | 3, _, ek =>
      refine b152_27w (tgt := 181) v0 (by rw [ek]; decide) ?_
      refine b152_181gw (mc := 0) (ms := 0) v1 v2 c1 (by omega) (by omega) (c_corners (d := 73) H ok _ _) ?_
      rintro o h4 z4 ⟨rfl, hz4, hf4, H4⟩
      have R4 := R.of hf4
      obtain ⟨fs4, o4⟩ := R4.ob
      refine b152_195gw (mc := 0) (ms := 0) v1 v2 o4 (by omega) (by omega) (r_corners (d := 73) R4 ok _ _) ?_
      rintro o h5 z5 ⟨rfl, rfl, hf5, R5⟩
      exact b152_209w (fun _ => nxt _ _ h4 h5 _ _ _ H4 R5 hf5 (ok) (by omega) (by omega)) (fun r => absurd rfl r)
    | 4, _, ek =>
      refine b152_27w (tgt := 214) v0 (by rw [ek]; decide) ?_
      refine b152_214gw (mc := 0) (ms := 0) v1 v2 v3 c1 (by omega) (by omega) (c_corner (d := 73) H ok _ _ _) ?_
      rintro o h4 z4 ⟨rfl, hz4, hf4, H4⟩
      have R4 := R.of hf4
      obtain ⟨fs4, o4⟩ := R4.ob
      refine b152_233gw (mc := 0) (ms := 0) v1 v2 v3 o4 (by omega) (by omega) (r_corner (d := 73) R4 ok _ _ _) ?_
      rintro o h5 z5 ⟨rfl, rfl, hf5, R5⟩
      exact b152_252w (fun _ => nxt _ _ h4 h5 _ _ _ H4 R5 hf5 (ok) (by omega) (by omega)) (fun r => absurd rfl r)
    | 5, _, ek =>
      refine b152_27w (tgt := 257) v0 (by rw [ek]; decide) ?_
      refine b152_257gw (mc := 0) (ms := 0) v1 c1 (by omega) (by omega) (c_lives (d := 73) H ok _) ?_
      rintro o h4 z4 ⟨rfl, hz4, hf4, H4⟩
      have R4 := R.of hf4
      obtain ⟨fs4, o4⟩ := R4.ob
      refine b152_266gw (mc := 0) (ms := 0) v1 o4 (by omega) (by omega) (r_lives (d := 73) R4 ok _) ?_
      rintro o h5 z5 ⟨rfl, rfl, hf5, R5⟩
      exact b152_275w (fun _ => nxt _ _ h4 h5 _ _ _ H4 R5 hf5 (ok) (by omega) (by omega)) (fun r => absurd rfl r)
    | 6, _, ek =>
      refine b152_27w (tgt := 280) v0 (by rw [ek]; decide) ?_
      refine b152_280gw (mc := 0) (ms := 0) v1 v2 v3 v4 v5 v6 c1 (by omega) (by omega) (c_join (d := 73) H ok _ _ _ _ _ _) ?_
      rintro o h4 z4 ⟨rfl, hz4, hf4, H4⟩
      have R4 := R.of hf4
      obtain ⟨fs4, o4⟩ := R4.ob
      refine b152_315gw (mc := 0) (ms := 0) v1 v2 v3 v4 v5 v6 o4 (by omega) (by omega) (r_join (d := 73) R4 ok _ _ _ _ _ _) ?_
      rintro o h5 z5 ⟨rfl, rfl, hf5, R5⟩
      exact b152_350w (fun _ => nxt _ _ h4 h5 _ _ _ H4 R5 hf5 (ok_join ok _ _ _ _ _ _) (by omega) (by omega)) (fun r => absurd rfl r)
    | 7, _, ek =>
      refine b152_27w (tgt := 355) v0 (by rw [ek]; decide) ?_
      refine b152_355gw (mc := 0) (ms := 0) c1 (by omega) (by omega) (c_moves (d := 73) H ok) ?_
      rintro o h4 z4 ⟨rfl, hz4, hf4, H4⟩
      have R4 := R.of hf4
      obtain ⟨fs4, o4⟩ := R4.ob
      refine b152_359gw (mc := 0) (ms := 0) o4 (by omega) (by omega) (r_moves (d := 73) R4 ok) ?_
      rintro o h5 z5 ⟨rfl, rfl, hf5, R5⟩
      exact b152_363w (fun _ => nxt _ _ h4 h5 _ _ _ H4 R5 hf5 (ok) (by omega) (by omega)) (fun r => absurd rfl r)
    | 8, _, ek =>
      refine b152_27w (tgt := 368) v0 (by rw [ek]; decide) ?_
      refine b152_368gw (mc := 0) (ms := 0) v1 c1 (by omega) (by omega) (c_move (d := 73) H ok _) ?_
      rintro o h4 z4 ⟨rfl, hz4, hf4, H4⟩
      have R4 := R.of hf4
      obtain ⟨fs4, o4⟩ := R4.ob
      refine b152_377gw (mc := 0) (ms := 0) v1 o4 (by omega) (by omega) (r_move (d := 73) R4 ok _) ?_
      rintro o h5 z5 ⟨rfl, rfl, hf5, R5⟩
      exact b152_386w (fun _ => nxt _ _ h4 h5 _ _ _ H4 R5 hf5 (ok_move ok _) (by omega) (by omega)) (fun r => absurd rfl r)
    | 9, _, ek =>
      refine b152_27w (tgt := 391) v0 (by rw [ek]; decide) ?_
      refine b152_391gw (mc := 0) (ms := 0) v1 v2 c1 (by omega) (by omega) (c_tell (d := 73) H ok _ _) ?_
      rintro o h4 z4 ⟨rfl, hz4, hf4, H4⟩
      have R4 := R.of hf4
      obtain ⟨fs4, o4⟩ := R4.ob
      refine b152_405gw (mc := 0) (ms := 0) v1 v2 o4 (by omega) (by omega) (r_tell (d := 73) R4 ok _ _) ?_
      rintro o h5 z5 ⟨rfl, rfl, hf5, R5⟩
      exact b152_419w (fun _ => nxt _ _ h4 h5 _ _ _ H4 R5 hf5 (ok) (by omega) (by omega)) (fun r => absurd rfl r)
    | 10, _, ek =>
      refine b152_27w (tgt := 424) v0 (by rw [ek]; decide) ?_
      refine b152_424gw (mc := 0) (ms := 0) c1 (by omega) (by omega) (c_undo (d := 73) H ok) ?_
      rintro o h4 z4 ⟨rfl, hz4, hf4, H4⟩
      have R4 := R.of hf4
      obtain ⟨fs4, o4⟩ := R4.ob
      refine b152_428gw (mc := 0) (ms := 0) o4 (by omega) (by omega) (r_undo (d := 73) R4 ok) ?_
      rintro o h5 z5 ⟨rfl, rfl, hf5, R5⟩
      exact b152_432w (fun _ => nxt _ _ h4 h5 _ _ _ H4 R5 hf5 (ok_undo ok) (by omega) (by omega)) (fun r => absurd rfl r)
    | 11, _, ek =>
      refine b152_27w (tgt := 437) v0 (by rw [ek]; decide) ?_
      refine b152_437gw (mc := 0) (ms := 0) v1 v2 c1 (by omega) (by omega) (c_made (d := 73) H ok _ _) ?_
      rintro o h4 z4 ⟨rfl, hz4, hf4, H4⟩
      have R4 := R.of hf4
      obtain ⟨fs4, o4⟩ := R4.ob
      refine b152_451gw (mc := 0) (ms := 0) v1 v2 o4 (by omega) (by omega) (r_made (d := 73) R4 ok _ _) ?_
      rintro o h5 z5 ⟨rfl, rfl, hf5, R5⟩
      exact b152_465w (fun _ => nxt _ _ h4 h5 _ _ _ H4 R5 hf5 (ok) (by omega) (by omega)) (fun r => absurd rfl r)
    | 12, _, ek =>
      refine b152_27w (tgt := 470) v0 (by rw [ek]; decide) ?_
      obtain ⟨e, w, hw, hcall⟩ := c_nim (sc := sc) (d := 72) H ok
      refine b152_470gw (mc := 83 * e) (ms := 15202 * e) c1 (by omega) (by omega) hcall ?_
      rintro o h4 z4 ⟨rfl, hz4, hf4, sol2, H4, hs2⟩
      have R4 := R.of hf4
      obtain ⟨fs4, o4⟩ := R4.ob
      refine b152_474gw (mc := 0) (ms := 0) o4 (by omega) (by omega) (r_nim (d := 73) R4 ok) ?_
      rintro o h5 z5 ⟨rfl, rfl, hf5, R5⟩
      exact b152_478w (fun _ => nxt _ _ h4 h5 _ _ _ H4 R5 hf5 (ok) (by omega) (by omega)) (fun r => absurd rfl r)
    | 13, _, ek =>
      refine b152_27w (tgt := 483) v0 (by rw [ek]; decide) ?_
      obtain ⟨e, w, hw, hcall⟩ := c_best (sc := sc) (d := 72) H ok
      refine b152_483gw (mc := 83 * e) (ms := 15202 * e) c1 (by omega) (by omega) hcall ?_
      rintro o h4 z4 ⟨rfl, hz4, hf4, sol2, H4, hs2⟩
      have R4 := R.of hf4
      obtain ⟨fs4, o4⟩ := R4.ob
      refine b152_487gw (mc := 0) (ms := 0) o4 (by omega) (by omega) (r_best (d := 73) R4 ok) ?_
      rintro o h5 z5 ⟨rfl, rfl, hf5, R5⟩
      exact b152_491w (fun _ => nxt _ _ h4 h5 _ _ _ H4 R5 hf5 (ok) (by omega) (by omega)) (fun r => absurd rfl r)
    | 14, _, ek =>
      refine b152_27w (tgt := 496) v0 (by rw [ek]; decide) ?_
      refine b152_496gw (mc := 25) (ms := 164) v1 c1 (by omega) (by omega) (c_image (d := 73) H ok _) ?_
      rintro o h4 z4 ⟨rfl, hz4, hf4, H4⟩
      have R4 := R.of hf4
      obtain ⟨fs4, o4⟩ := R4.ob
      refine b152_505gw (mc := 0) (ms := 0) v1 o4 (by omega) (by omega) (r_image (d := 73) R4 ok _) ?_
      rintro o h5 z5 ⟨rfl, rfl, hf5, R5⟩
      exact b152_514w (fun _ => nxt _ _ h4 h5 _ _ _ H4 R5 hf5 (ok_image ok _) (by omega) (by omega)) (fun r => absurd rfl r)
    | 15, _, ek =>
      refine b152_27w (tgt := 519) v0 (by rw [ek]; decide) ?_
      refine b152_519gw (mc := 0) (ms := 0) v1 c1 (by omega) (by omega) (c_again (d := 73) H ok _) ?_
      rintro o h4 z4 ⟨rfl, hz4, hf4, H4⟩
      have R4 := R.of hf4
      obtain ⟨fs4, o4⟩ := R4.ob
      refine b152_528gw (mc := 0) (ms := 0) v1 o4 (by omega) (by omega) (r_again (d := 73) R4 ok _) ?_
      rintro o h5 z5 ⟨rfl, rfl, hf5, R5⟩
      exact b152_537w (fun _ => nxt _ _ h4 h5 _ _ _ H4 R5 hf5 (ok_again ok _) (by omega) (by omega)) (fun r => absurd rfl r)
    | n + 16, q, _ => exact absurd q (by omega)
theorem law_goal : LawGoal := by
  intro b L z xs hL hbz
  show ip (b, L, xs) (ipC (b, L, xs) 100) 152 600000 7302250 lawQ 0 [some (.ref b), none, none, none] [] (fun _ => none) z 0 0
  refine b152_0g (mc := 149) (ms := 4976) (by omega) (by omega) (by omega) (by omega) (t_tbinit (d := 94) (T := z) hup_eq) ?_
  rintro o h2 z2 ⟨rfl, rfl, hf2, c1, c2, c3, c4⟩
  refine b152_7g (mc := 8) (ms := 2476972) (by omega) (by omega) (by omega) (by omega) (t_mdinit (d := 97) (M := z + 150) hup_eq) ?_
  rintro o h3 z3 ⟨rfl, rfl, hf3, R3⟩
  have he : ∀ x, x < z + 150 → h3 x = h2 x := fun x hx => (hf3 x (by omega)).trans (hup_ne (by omega) rfl)
  refine b152_15 ?_
  refine law_loop (sc := (b, L, xs)) (T := z) hL (L / 7) 0 ((2, 0, mv0), fun _ => none) none h3 _ _ _ (by show 0 + L / 7 = L / 7; omega) ⟨fun _ => none, (he _ (by omega)).trans c1, c2.of (by omega) fun x q1 q2 => he x (by omega), (he _ (by omega)).trans c3, c4.off (he _ (by omega)), by omega, fun S e => (by cases e), fun k hk => trivial, fun k l B C _ _ _ q _ => (by cases q), fun k B S _ q _ => (by cases q)⟩ R3 ⟨⟨by decide, by decide, fun k hk => absurd hk (Nat.not_lt_zero _)⟩, fun k G hk q => (by cases q)⟩ (by decide) (by decide)
