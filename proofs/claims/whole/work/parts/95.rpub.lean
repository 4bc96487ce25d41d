/-! the reference's public methods -/
def imR (al hs : Nat → Int32) (k : Nat) : Option GSt → Prop
  | none => hs k = nI 0
  | some G => hs k = nI 1 ∧ rgm al (8180 * (k + 1)) G.1 G.2.1 G.2.2
def rfs (h : HP) (M : Nat) (A : Ab) : Prop := ∃ al kn cu ms kz hs, mdl h M al kn cu ms kz ∧ h (M + 2) = some (.inl (3, 4, .inl hs)) ∧ rgm al 0 A.1.1 A.1.2.1 A.1.2.2 ∧ ∀ k, k < 4 → imR al hs k (A.2 k)
def rQ (h : HP) (M z : Nat) (v : Int32) (A : Ab) : ipQ := fun o h2 z2 => o = some (.int v) ∧ z2 = z ∧ (∀ x, x < M ∨ M + 9 ≤ x → h2 x = h x) ∧ rfs h2 M A
theorem imR.off {al al2 hs : Nat → Int32} {k : Nat} {o : Option GSt} (H : imR al hs k o) (hk : k < 4) (ok : ∀ G, o = some G → gOK G.1 G.2.1 G.2.2) (he : ∀ x, 8180 ≤ x → x < 40900 → al2 x = al x) : imR al2 hs k o := by
  cases o with
  | none => exact H
  | some G => exact ⟨H.1, H.2.of (ok G rfl).t23 fun x h1 h2 => he x (by omega) (by omega)⟩
theorem be9 {x : Int32} (r : ¬ x < 1) (r2 : x ≤ 8) : isN x 9 ∧ x ≠ 0 := by
  have h1 : ¬ x.toInt < 1 := fun q => r (Int32.lt_iff_toInt_lt.mpr q)
  have h2 : x.toInt ≤ 8 := Int32.le_iff_toInt_le.mp r2
  obtain ⟨k, hk, rfl⟩ := nI_of (x := x) (fun q => by
    have : x.toInt < 0 := Int32.lt_iff_toInt_lt.mp q
    omega)
  rw [nI_toInt hk] at h1 h2
  refine ⟨⟨k, by omega, rfl⟩, fun q => ?_⟩
  have : k = 0 := nI_inj (b := 0) q (by omega) (by omega)
  omega
section REF
variable {sc : ipSc} {d z M : Nat} {h : HP} {A : Ab}
theorem rfs.up {al hs : Nat → Int32} (ok : abOK A) (I : ∀ k, k < 4 → imR al hs k (A.2 k)) {h2 : HP} {al2 : Nat → Int32} {kn ms kz : Int32} {cu : Cur} {G : GSt} (H2 : mdl h2 M al2 kn cu ms kz) (Hh : h2 (M + 2) = some (.inl (3, 4, .inl hs))) (R : rgm al2 0 G.1 G.2.1 G.2.2) (he : ∀ x, 8180 ≤ x → x < 40900 → al2 x = al x) : rfs h2 M (G, A.2) := ⟨al2, kn, cu, ms, kz, hs, H2, Hh, R, fun k hk => (I k hk).off hk (fun G e => ok.2 k G hk e) he⟩
theorem rq_pure (H : rfs h M A) {v : Int32} : ∀ o h2 z2, qI v h z o h2 z2 → rQ h M z v A o h2 z2 := by
  rintro o h2 z2 ⟨rfl, rfl, rfl⟩
  exact ⟨rfl, rfl, fun _ _ => rfl, H⟩
theorem fA {a : Nat → Int32} {x : Nat} (hx : x < M ∨ M + 9 ≤ x) : mA h M a x = h x := hup_ne (by omega) rfl
theorem fC {kn ms kz : Int32} {cu : Cur} {x : Nat} (hx : x < M ∨ M + 9 ≤ x) : mC h M kn cu ms kz x = h x := hup_ne (by omega) rfl
theorem fP {a : Nat → Int32} {x : Nat} (hx : x < M ∨ M + 9 ≤ x) : mP h M a x = h x := hup_ne (by omega) rfl
theorem r_begin (H : rfs h M A) (ok : abOK A) (x : Int32) : ipC sc (d + 27) 96 [.ref M, .int x] h z 0 0 (rQ h M z (aBegin A x).1 (aBegin A x).2) := by
  refine ipC_mk [some (.ref M), some (.int x)] rfl (Nat.le_of_ble_eq_true rfl) ?_
  by_cases e : isN x 9 ∧ x ≠ 0
  · have ea : aBegin A x = (nI 1, ((uI x, 0, A.1.2.2), A.2)) := cI_t e
    rw [ea]
    obtain ⟨⟨k, hk, rfl⟩, hne⟩ := e
    have hk0 : k ≠ 0 := fun q => hne (by rw [q]; rfl)
    rw [uI_nI (by omega)]
    obtain ⟨al, kn, cu, ms, kz, hs, H1, Hh, R, I⟩ := H
    refine c96_0 (by omega) (fun r => absurd r (by omega)) (fun _ => c96_5 (by omega) (fun _ => ?_) (fun r => absurd (by omega) r))
    refine c96_13 H1.1.1 (Nat.zero_le _) (Nat.zero_le _) (t_begins (d := d + 24) (mv := A.1.2.2) H1.1 (by omega) (by omega)) (kW fun a2 h2 => c96_18 ⟨rfl, rfl, fun x hx => fA hx, ?_⟩)
    exact rfs.up ok I H1.aa (hup_ne (by omega) Hh) h2.1 (fun x q1 q2 => h2.2 x q1)
  · have ea : aBegin A x = (nI 0, A) := cI_f e
    rw [ea]
    have fin : ∀ o0 o1 : Option Value, ip sc (ipC sc (d + 26)) 96 0 0 (rQ h M z (nI 0) A) 11 [o0, o1] [] h z 0 0 := fun o0 o1 => c96_11 (rq_pure H _ _ _ ⟨rfl, rfl, rfl⟩)
    exact b96_0 (fun _ => fin _ _) (fun r => b96_5 (fun r2 => absurd (be9 r r2) e) (fun _ => fin _ _))
theorem r_count (H : rfs h M A) (ok : abOK A) (x : Int32) : ipC sc (d + 27) 117 [.ref M, .int x] h z 0 0 (rQ h M z (aCount A x) A) := by
  have iv := ok.1.iv (Nat.le_refl _)
  have ht := ok.1.t23
  obtain ⟨al, kn, cu, ms, kz, hs, H1, Hh, R, I⟩ := id H
  refine ipC_mono ?_ (t_rcount (d := d + 24) H1 R.1 (by omega) (R.row (Nat.le_refl _)) iv.2.2.2.1 iv.2.2.2.2.1 (fun g hg => ok.1.cnt (Nat.le_refl _) hg) x)
  rintro o h2 z2 ⟨rfl, rfl, rfl | ⟨pf2, rfl⟩⟩
  · exact ⟨rfl, rfl, fun _ _ => rfl, H⟩
  · exact ⟨rfl, rfl, fun x hx => fP hx, al, kn, cu, ms, kz, hs, H1.pp, hup_ne (by omega) Hh, R, I⟩
theorem r_walls (H : rfs h M A) (ok : abOK A) (x : Int32) : ipC sc (d + 27) 124 [.ref M, .int x] h z 0 0 (rQ h M z (aWalls (aP A) x) A) := by
  have ht := ok.1.t23
  obtain ⟨al, kn, cu, ms, kz, hs, H1, Hh, R, I⟩ := id H
  exact ipC_mono (rq_pure H) (t_rwalls (d := d + 23) H1.1 R.1 (by omega) (R.row (Nat.le_refl _)) x)
theorem r_corners (H : rfs h M A) (ok : abOK A) (x y : Int32) : ipC sc (d + 27) 125 [.ref M, .int x, .int y] h z 0 0 (rQ h M z (aCorners (aP A) x y) A) := by
  have ht := ok.1.t23
  obtain ⟨al, kn, cu, ms, kz, hs, H1, Hh, R, I⟩ := id H
  exact ipC_mono (rq_pure H) (t_rcorners (d := d + 22) H1.1 R.1 (by omega) (R.row (Nat.le_refl _)) x y)
theorem r_corner (H : rfs h M A) (ok : abOK A) (x y k : Int32) : ipC sc (d + 27) 126 [.ref M, .int x, .int y, .int k] h z 0 0 (rQ h M z (aCorner (aP A) x y k) A) := by
  have ht := ok.1.t23
  obtain ⟨al, kn, cu, ms, kz, hs, H1, Hh, R, I⟩ := id H
  exact ipC_mono (rq_pure H) (t_rcorner (d := d + 21) H1.1 R.1 (by omega) (R.row (Nat.le_refl _)) x y k)
theorem r_lives (H : rfs h M A) (ok : abOK A) (x : Int32) : ipC sc (d + 27) 127 [.ref M, .int x] h z 0 0 (rQ h M z (aLives (aP A) x) A) := by
  have ht := ok.1.t23
  obtain ⟨al, kn, cu, ms, kz, hs, H1, Hh, R, I⟩ := id H
  exact ipC_mono (rq_pure H) (t_rlives (d := d + 24) H1.1 R.1 (by omega) (R.row (Nat.le_refl _)) x)
theorem r_join (H : rfs h M A) (ok : abOK A) (x1 x2 x3 x4 x5 x6 : Int32) : ipC sc (d + 27) 129 [.ref M, .int x1, .int x2, .int x3, .int x4, .int x5, .int x6] h z 0 0 (rQ h M z (aJoin A x1 x2 x3 x4 x5 x6).1 (aJoin A x1 x2 x3 x4 x5 x6).2) := by
  obtain ⟨al, kn, cu, ms, kz, hs, H1, Hh, R, I⟩ := id H
  refine ipC_mono ?_ (t_rjoin (d := d + 20) (P := aP A) H1.1 R ok.1 rfl x1 x2 x3 x4 x5 x6)
  rintro o h2 z2 ⟨rfl, ⟨rfl, hn, rfl⟩ | ⟨hl, rfl, a2, rfl, R2, h3⟩⟩
  · have ea : aJoin A x1 x2 x3 x4 x5 x6 = (-1, A) := cI_f hn
    rw [ea]
    exact ⟨rfl, rfl, fun _ _ => rfl, H⟩
  · have ea : aJoin A x1 x2 x3 x4 x5 x6 = (nI (aP A).1.length, doA A (xMv x1 x2 x3 x4 x5 x6)) := cI_t hl
    rw [ea]
    exact ⟨rfl, rfl, fun x hx => fA hx, rfs.up ok I H1.aa (hup_ne (by omega) Hh) R2 (fun x q1 q2 => h3 x q1)⟩
theorem r_moves (H : rfs h M A) (ok : abOK A) : ipC sc (d + 27) 130 [.ref M] h z 0 0 (rQ h M z (nI (mvs (aP A)).length) A) := by
  have iv := ok.1.iv (Nat.le_refl _)
  have ht := ok.1.t23
  obtain ⟨al, kn, cu, ms, kz, hs, H1, Hh, R, I⟩ := id H
  refine ipC_mono ?_ (t_rmoves (d := d + 21) H1.1 R.1 (by omega) (R.row (Nat.le_refl _)) iv.2.2.2.1 iv.wB)
  rintro o h2 z2 ⟨rfl, rfl, t2, ms2, rfl⟩
  exact ⟨rfl, rfl, fun x hx => fC hx, al, kn, t2, ms2, kz, hs, H1.cc, hup_ne (by omega) Hh, R, I⟩
theorem r_move (H : rfs h M A) (ok : abOK A) (x : Int32) : ipC sc (d + 27) 132 [.ref M, .int x] h z 0 0 (rQ h M z (aMove A x).1 (aMove A x).2) := by
  have iv := ok.1.iv (Nat.le_refl _)
  have ht := ok.1.t23
  obtain ⟨al, kn, cu, ms, kz, hs, H1, Hh, R, I⟩ := id H
  refine ipC_mk [some (.ref M), some (.int x)] rfl (Nat.le_of_ble_eq_true rfl) ?_
  refine b132_0 H1.1.1 (Nat.zero_le _) (Nat.zero_le _) (t_goesTo (d := d + 20) H1.1 R.1 (by omega) (R.row (Nat.le_refl _)) iv.2.2.2.1 iv.wB (mvs_len iv) x) ?_
  rintro o h4 z4 ⟨ez, ⟨rfl, e, t4, ms4, rfl⟩ | ⟨rfl, c4, s4, e, rfl⟩⟩ <;> obtain rfl := ez.symm
  · have ea : aMove A x = (-1, A) := by
      unfold aMove
      rw [show aK (aP A) x = none from e]
    rw [ea]
    refine c132_5 (by omega) (fun _ => c132_39 (b132_40 ⟨rfl, rfl, fun x hx => fC hx, al, kn, t4, ms4, kz, hs, H1.cc, hup_ne (by omega) Hh, R, I⟩)) (fun r => absurd rfl r)
  · have ea : aMove A x = (nI (aP A).1.length, doA A (c4, s4)) := by
      unfold aMove
      rw [show aK (aP A) x = some (c4, s4) from e]
    rw [ea]
    have H2 := H1.cc (t2 := c4) (ms2 := nI s4)
    have hl : lgl (aP A) (c4, s4) := aK_legal e
    refine c132_5 (by omega) (fun r => absurd r (by decide)) (fun _ => ?_)
    refine c132_8 (v_fs1_6 := c4.1) (v_fs1_7 := c4.2.1) (v_fs1_8 := c4.2.2.1) (v_fs1_9 := c4.2.2.2.1) (v_fs1_10 := c4.2.2.2.2) (v_fs1_11 := s4) H2.1.1 rfl rfl rfl rfl rfl rfl (Nat.zero_le _) (Nat.zero_le _) (t_does (d := d + 20) (m := (c4, s4)) H2.1 R ok.1 hl) (kWI fun a5 h5 => c132_36 (c132_40 ⟨rfl, rfl, fun x hx => (fA hx).trans (fC hx), ?_⟩))
    exact rfs.up (G := (doA A (c4, s4)).1) ok I H2.aa (hup_ne (by omega) (hup_ne (by omega) Hh)) h5.1 (fun x q1 q2 => h5.2 x q1)
theorem r_tell (H : rfs h M A) (ok : abOK A) (x w : Int32) : ipC sc (d + 27) 133 [.ref M, .int x, .int w] h z 0 0 (rQ h M z (aTell A x w) A) := by
  have iv := ok.1.iv (Nat.le_refl _)
  have ht := ok.1.t23
  obtain ⟨al, kn, cu, ms, kz, hs, H1, Hh, R, I⟩ := id H
  refine ipC_mono ?_ (t_rtell (d := d + 20) H1.1 R.1 (by omega) (R.row (Nat.le_refl _)) iv.2.2.2.1 iv.wB (mvs_len iv) x w)
  rintro o h2 z2 ⟨rfl, rfl, t2, ms2, rfl⟩
  exact ⟨rfl, rfl, fun x hx => fC hx, al, kn, t2, ms2, kz, hs, H1.cc, hup_ne (by omega) Hh, R, I⟩
theorem r_undo (H : rfs h M A) (ok : abOK A) : ipC sc (d + 27) 134 [.ref M] h z 0 0 (rQ h M z (aUndo A).1 (aUndo A).2) := by
  have ht := ok.1.t23
  obtain ⟨al, kn, cu, ms, kz, hs, H1, Hh, R, I⟩ := id H
  refine ipC_mono ?_ (t_rundo (d := d + 26) H1.1 R ht)
  rintro o h2 z2 ⟨rfl, ⟨h0, rfl, rfl⟩ | ⟨h0, rfl, a2, rfl, R2, h3⟩⟩
  · have ea : aUndo A = (-1, A) := if_pos h0
    rw [ea]
    exact ⟨rfl, rfl, fun _ _ => rfl, H⟩
  · have ea : aUndo A = (nI (A.1.2.1 - 1), ((A.1.1, A.1.2.1 - 1, A.1.2.2), A.2)) := if_neg (by omega)
    rw [ea]
    exact ⟨rfl, rfl, fun x hx => fA hx, rfs.up ok I H1.aa (hup_ne (by omega) Hh) R2 (fun x q1 q2 => h3 x q1)⟩
theorem r_made (H : rfs h M A) (ok : abOK A) (x w : Int32) : ipC sc (d + 27) 135 [.ref M, .int x, .int w] h z 0 0 (rQ h M z (aMade A x w) A) := by
  have ht := ok.1.t23
  obtain ⟨al, kn, cu, ms, kz, hs, H1, Hh, R, I⟩ := id H
  exact ipC_mono (rq_pure H) (t_rmade (d := d + 25) H1.1 R ht x w)
theorem mfr_out {h2 : HP} (hf : mfr M h h2) {x : Nat} (hx : x < M ∨ M + 9 ≤ x) : h2 x = h x := hf x (by omega)
theorem r_nim (H : rfs h M A) (ok : abOK A) : ipC sc (d + 27) 147 [.ref M] h z 0 0 (rQ h M z (nimI (aP A)) A) := by
  have ht := ok.1.t23
  obtain ⟨al, kn, cu, ms, kz, hs, H1, Hh, R, I⟩ := id H
  refine ipC_mono ?_ (t_rnim (d := d) H1 R.1 (by omega) (R.row (Nat.le_refl _)) (ok.1.vl (Nat.le_refl _)) (ok.1.sum (Nat.le_refl _)))
  rintro o h2 z2 ⟨rfl, rfl, hf, al2, kn2, t2, ms2, kz2, H2, ha⟩
  exact ⟨rfl, rfl, fun x hx => mfr_out hf hx, rfs.up (G := A.1) ok I H2 ((hf _ (Or.inr (Or.inl rfl))).trans Hh) (R.of ht fun x q1 q2 => ha x (by omega)) (fun x q1 q2 => ha x (by omega))⟩
theorem r_best (H : rfs h M A) (ok : abOK A) : ipC sc (d + 27) 148 [.ref M] h z 0 0 (rQ h M z (bestI (aP A)) A) := by
  have ht := ok.1.t23
  have iv := ok.1.iv (Nat.le_refl _)
  obtain ⟨al, kn, cu, ms, kz, hs, H1, Hh, R, I⟩ := id H
  refine ipC_mono ?_ (t_rbest (d := d) H1 R.1 (by omega) (R.row (Nat.le_refl _)) (ok.1.vl (Nat.le_refl _)) (ok.1.sum (Nat.le_refl _)) iv.wB (fun f u i v j s hL => (inv_mv iv hL).cap.2.1))
  rintro o h2 z2 ⟨rfl, rfl, hf, al2, kn2, t2, ms2, kz2, H2, ha⟩
  exact ⟨rfl, rfl, fun x hx => mfr_out hf hx, rfs.up (G := A.1) ok I H2 ((hf _ (Or.inr (Or.inl rfl))).trans Hh) (R.of ht fun x q1 q2 => ha x (by omega)) (fun x q1 q2 => ha x (by omega))⟩
theorem mdl.hs {al : Nat → Int32} {kn ms kz : Int32} {cu : Cur} {e : hE} (H : mdl h M al kn cu ms kz) : mdl (hup h (M + 2) e) M al kn cu ms kz := by
  obtain ⟨⟨c1, c2, c3⟩, c4, pf, gf, ky, kf, sz, wf, a1, a2, a3, a4, a5, a6, a7⟩ := H
  exact ⟨⟨hup_ne (by omega) c1, c2, hup_ne (by omega) c3⟩, c4, pf, gf, ky, kf, sz, wf, hup_ne (by omega) a1, hup_ne (by omega) a2, hup_ne (by omega) a3, hup_ne (by omega) a4, hup_ne (by omega) a5, hup_ne (by omega) a6, a7⟩
theorem r_image (H : rfs h M A) (ok : abOK A) (x : Int32) : ipC sc (d + 27) 149 [.ref M, .int x] h z 0 0 (rQ h M z (aImage A x).1 (aImage A x).2) := by
  have ht := ok.1.t23
  obtain ⟨al, kn, cu, ms, kz, hs, H1, Hh, R, I⟩ := id H
  refine ipC_mono ?_ (t_rimage (d := d + 25) H1.1 Hh x)
  rintro o h2 z2 ⟨rfl, ⟨hn, rfl, rfl⟩ | ⟨k, a2, hk, rfl, rfl, rfl, g1, g2⟩⟩
  · have ea : aImage A x = (nI 0, A) := cI_f hn
    rw [ea]
    exact ⟨rfl, rfl, fun _ _ => rfl, H⟩
  · have ea : aImage A (nI k) = (nI 1, (A.1, fun i => if i = uI (nI k) then some A.1 else A.2 i)) := cI_t ⟨k, hk, rfl⟩
    rw [ea, uI_nI (by omega)]
    refine ⟨rfl, rfl, fun x hx => (fA hx).trans (hup_ne (by omega) rfl), a2, kn, cu, ms, kz, upd hs k (nI 1), H1.hs.aa, hup_ne (by omega) hup_eq, R.of ht fun x q1 q2 => g2 x (by omega), fun i hi => ?_⟩
    by_cases e : i = k
    · subst e
      simp only [if_true]
      exact ⟨pk_us, R.sh ht fun y hy => by rw [g1 y hy, Nat.zero_add]⟩
    · simp only [if_neg e]
      have hI := I i hi
      have okI : ∀ G, A.2 i = some G → gOK G.1 G.2.1 G.2.2 := fun G q => ok.2 i G hi q
      generalize A.2 i = oi at hI okI
      cases oi with
      | none => exact (pk_un e).trans hI
      | some G => exact ⟨(pk_un e).trans hI.1, hI.2.of (okI G rfl).t23 fun y q1 q2 => g2 y (by omega)⟩
theorem r_again (H : rfs h M A) (ok : abOK A) (x : Int32) : ipC sc (d + 27) 150 [.ref M, .int x] h z 0 0 (rQ h M z (aAgain A x).1 (aAgain A x).2) := by
  have ht := ok.1.t23
  obtain ⟨al, kn, cu, ms, kz, hs, H1, Hh, R, I⟩ := id H
  have hb : ∀ k, k < 4 → hs k = nI 0 ∨ hs k = nI 1 := fun k hk => by
    have hI := I k hk
    generalize A.2 k = ok2 at hI
    cases ok2 with
    | none => exact Or.inl hI
    | some G => exact Or.inr hI.1
  have n01 : nI 0 ≠ nI 1 := by decide
  refine ipC_mono ?_ (t_ragain (d := d + 25) H1.1 Hh hb x)
  rintro o h2 z2 ⟨rfl, ⟨hn, rfl, rfl⟩ | ⟨k, a2, hk, rfl, hk1, rfl, rfl, g1, g2⟩⟩
  · have ea : aAgain A x = (nI 0, A) := by
      by_cases e : isN x 4
      · have e1 : aAgain A x = (match A.2 (uI x) with
          | none => (nI 0, A)
          | some G => (nI 1, (G, A.2))) := cI_t e
        obtain ⟨k, hk, rfl⟩ := e
        rw [uI_nI (by omega)] at e1
        have hI := I k hk
        have h0 := hn k hk rfl
        rw [e1]
        generalize A.2 k = o at hI
        cases o with
        | none => rfl
        | some G => exact absurd (h0.symm.trans hI.1) n01
      · exact cI_f e
    rw [ea]
    exact ⟨rfl, rfl, fun _ _ => rfl, H⟩
  · have hI := I k hk
    cases hG : A.2 k with
    | none =>
      rw [hG] at hI
      exact absurd (hI.symm.trans hk1) n01
    | some G =>
      rw [hG] at hI
      have ea : aAgain A (nI k) = (nI 1, (G, A.2)) := by
        have e1 : aAgain A (nI k) = (match A.2 (uI (nI k)) with
          | none => (nI 0, A)
          | some G => (nI 1, (G, A.2))) := cI_t ⟨k, hk, rfl⟩
        rw [e1, uI_nI (by omega), hG]
      rw [ea]
      exact ⟨rfl, rfl, fun x hx => fA hx, rfs.up ok I H1.aa (hup_ne (by omega) Hh) (hI.2.sh (ok.2 k G hk hG).t23 fun y hy => by rw [Nat.zero_add]; exact g1 y hy) (fun x q1 q2 => g2 x q1)⟩
end REF
