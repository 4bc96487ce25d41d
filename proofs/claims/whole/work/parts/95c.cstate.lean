/-! the class's object: what it keeps -/
theorem slv.of {h h2 : HP} {S : Nat} (H3 : slv h S) (he : ∀ x, S ≤ x → x < S + 83 → h2 x = h x) : slv h2 S := by
  obtain ⟨c1, ⟨fl, tm, fi, la, lk, c2⟩, ⟨sg, fr, wr, tx, so, tu, wk, en, nr, wc, hi, lo, c3⟩, c4, ⟨pc5, B5, c5⟩, ⟨r6, c6, d6⟩, ⟨r7, c7, d7⟩, ⟨ph, c8⟩, ⟨pl, c9⟩, ⟨lf, c10⟩, c11, c12⟩ := H3
  exact ⟨(he _ (by omega) (by omega)).trans c1, ⟨fl, tm, fi, la, lk, c2.off fun x a b => he x (by omega) (by omega)⟩, ⟨sg, fr, wr, tx, so, tu, wk, en, nr, wc, hi, lo, c3.off fun x a b => he x (by omega) (by omega)⟩, c4.off fun x a b => he x (by omega) (by omega), ⟨pc5, B5, c5.off fun x a b => he x (by omega) (by omega)⟩, ⟨r6, (he _ (by omega) (by omega)).trans c6, d6⟩, ⟨r7, (he _ (by omega) (by omega)).trans c7, d7⟩, ⟨ph, (he _ (by omega) (by omega)).trans c8⟩, ⟨pl, (he _ (by omega) (by omega)).trans c9⟩, ⟨lf, (he _ (by omega) (by omega)).trans c10⟩, fun k hk => ⟨_, _, (c11 k hk).choose_spec.choose_spec.off fun x a b => he x (by omega) (by omega)⟩, fun k hk => (c12 k hk).off (he _ (by omega) (by omega))⟩
def slV : Option Nat → Value
  | none => .null
  | some S => .ref S
def tFs (T : Nat) (sol : Option Nat) : List Value := [.ref (T + 1), .ref (T + 148), .ref (T + 149), slV sol]
def imC (h : HP) (z T : Nat) : Option Nat → Option GSt → Prop
  | none, none => True
  | some B, some G => ntIs h B G.1 G.2.1 G.2.2 ∧ T + 159 ≤ B ∧ B + 25 ≤ z
  | _, _ => False
def dis (im : Nat → Option Nat) (sol : Option Nat) : Prop := (∀ k l B C, k < 4 → l < 4 → k ≠ l → im k = some B → im l = some C → B + 25 ≤ C ∨ C + 25 ≤ B) ∧ ∀ k B S, k < 4 → im k = some B → sol = some S → B + 25 ≤ S ∨ S + 83 ≤ B
def clP (h : HP) (z T : Nat) (A : Ab) (sol : Option Nat) (im : Nat → Option Nat) : Prop := h T = some (.inr (8, tFs T sol)) ∧ gmIs h (T + 1) A.1.1 A.1.2.1 A.1.2.2 ∧ h (T + 148) = some (.inl (6, 4, .inr (.inr (.inr (.inr im))))) ∧ mvO h (T + 149) ∧ T + 159 ≤ z ∧ (∀ S, sol = some S → slv h S ∧ T + 159 ≤ S ∧ S + 83 ≤ z) ∧ (∀ k, k < 4 → imC h z T (im k) (A.2 k)) ∧ dis im sol
def cls (h : HP) (z T : Nat) (A : Ab) (sol : Option Nat) : Prop := ∃ im, clP h z T A sol im
theorem imC.of {h h2 : HP} {z z2 T : Nat} {o : Option Nat} {g : Option GSt} (H : imC h z T o g) (hz : z ≤ z2) (ok : ∀ G, g = some G → gOK G.1 G.2.1 G.2.2) (he : ∀ B x, o = some B → B ≤ x → x < B + 25 → h2 x = h x) : imC h2 z2 T o g := by
  cases o with
  | none => cases g with
    | none => trivial
    | some G => exact H.elim
  | some B => cases g with
    | none => exact H.elim
    | some G => exact ⟨H.1.of (ok G rfl).t23 fun x q1 q2 => he B x rfl q1 q2, H.2.1, by have := H.2.2; omega⟩
theorem imC.at {h : HP} {z T : Nat} {o : Option Nat} {g : Option GSt} (H : imC h z T o g) {B : Nat} (e : o = some B) : T + 159 ≤ B ∧ B + 25 ≤ z := by
  subst e
  cases g with
  | none => exact H.elim
  | some G => exact H.2
section CS
variable {h h2 : HP} {z T : Nat} {A : Ab} {sol : Option Nat}
/-- the reference's work, seen from here -/
theorem cls.ref (H : cls h z T A sol) (ok : abOK A) (he : ∀ x, x < T + 150 ∨ T + 159 ≤ x → h2 x = h x) : cls h2 z T A sol := by
  obtain ⟨im, c1, c2, c3, c4, c5, c6, c7, c8⟩ := H
  have := ok.1.t23
  refine ⟨im, (he _ (by omega)).trans c1, c2.of this fun x q1 q2 => he x (by omega), (he _ (by omega)).trans c3, c4.off (he _ (by omega)), c5, fun S e => ?_, fun k hk => ?_, c8⟩
  · obtain ⟨s1, s2, s3⟩ := c6 S e
    exact ⟨s1.of fun x q1 q2 => he x (by omega), s2, s3⟩
  · refine (c7 k hk).of (Nat.le_refl _) (fun G e => ok.2 k G hk e) fun B x e q1 q2 => he x ?_
    have := (c7 k hk).at e
    omega
/-- a change of the game and of the move that is asked for -/
theorem cls.gm (H : cls h z T A sol) (ok : abOK A) (he : ∀ x, (x < T + 1 ∨ T + 148 ≤ x) → x ≠ T + 149 → h2 x = h x) {G : GSt} (g2 : gmIs h2 (T + 1) G.1 G.2.1 G.2.2) (m2 : mvO h2 (T + 149)) : cls h2 z T (G, A.2) sol := by
  obtain ⟨im, c1, c2, c3, c4, c5, c6, c7, c8⟩ := H
  refine ⟨im, (he _ (by omega) (by omega)).trans c1, g2, (he _ (by omega) (by omega)).trans c3, m2, c5, fun S e => ?_, fun k hk => ?_, c8⟩
  · obtain ⟨s1, s2, s3⟩ := c6 S e
    exact ⟨s1.of fun x q1 q2 => he x (by omega) (by omega), s2, s3⟩
  · refine (c7 k hk).of (Nat.le_refl _) (fun G e => ok.2 k G hk e) fun B x e q1 q2 => ?_
    have := (c7 k hk).at e
    exact he x (by omega) (by omega)
end CS
def cQ (h : HP) (T z : Nat) (v : Int32) (A : Ab) (sol : Option Nat) : ipQ := fun o h2 z2 => o = some (.int v) ∧ z ≤ z2 ∧ (∀ x, T + 150 ≤ x → x < T + 159 → h2 x = h x) ∧ cls h2 z2 T A sol
theorem plIs.ob2 {h : HP} {b le pc : Nat} {P : PosT} (H : plIs h b le pc P) : h b = some (.inr (6, pFs b le (pC P).length (pW P).length P.2.length P.1.length pc P.1.sum)) := by
  have := pbIs.ob H
  rw [bC_c, bW_c] at this
  exact this
section CLS
variable {sc : ipSc} {d z T : Nat} {h : HP} {A : Ab} {sol : Option Nat}
theorem cq_pure (H : cls h z T A sol) {v : Int32} : ∀ o h2 z2, qI v h z o h2 z2 → cQ h T z v A sol o h2 z2 := by
  rintro o h2 z2 ⟨rfl, rfl, rfl⟩
  exact ⟨rfl, Nat.le_refl _, fun _ _ _ => rfl, H⟩
theorem c_begin (H : cls h z T A sol) (ok : abOK A) (x : Int32) : ipC sc (d + 27) 74 [.ref T, .int x] h z 0 0 (cQ h T z (aBegin A x).1 (aBegin A x).2 sol) := by
  refine ipC_mk [some (.ref T), some (.int x)] rfl (Nat.le_of_ble_eq_true rfl) ?_
  by_cases e : isN x 9 ∧ x ≠ 0
  · have ea : aBegin A x = (nI 1, ((uI x, 0, A.1.2.2), A.2)) := cI_t e
    rw [ea]
    obtain ⟨⟨k, hk, rfl⟩, hne⟩ := e
    have hk0 : k ≠ 0 := fun q => hne (by rw [q]; rfl)
    rw [uI_nI (by omega)]
    obtain ⟨im, c1, c2, c3, c4, -⟩ := id H
    refine c74_0 (by omega) (fun r => absurd r (by omega)) (fun _ => c74_5 (by omega) (fun _ => ?_) (fun r => absurd (by omega) r))
    refine c74_13 c1 rfl c2.1 (Nat.zero_le _) (Nat.zero_le _) (t_gstart (d := d + 22) (n2 := k) c2 (by omega) (by omega)) ?_
    rintro o h2 z2 ⟨rfl, rfl, hf, H2⟩
    refine c74_21 ⟨rfl, Nat.le_refl _, fun x q1 q2 => hf x (by omega), H.gm ok (fun x q1 q2 => hf x (by omega)) H2 (c4.off (hf _ (by omega)))⟩
  · have ea : aBegin A x = (nI 0, A) := cI_f e
    rw [ea]
    have fin : ∀ o0 o1 : Option Value, ip sc (ipC sc (d + 26)) 74 0 0 (cQ h T z (nI 0) A sol) 11 [o0, o1] [] h z 0 0 := fun o0 o1 => c74_11 (cq_pure H _ _ _ ⟨rfl, rfl, rfl⟩)
    exact b74_0 (fun _ => fin _ _) (fun r => b74_5 (fun r2 => absurd (be9 r r2) e) (fun _ => fin _ _))
theorem c_count (H : cls h z T A sol) (ok : abOK A) (x : Int32) : ipC sc (d + 27) 75 [.ref T, .int x] h z 0 0 (cQ h T z (aCount A x) A sol) := by
  obtain ⟨im, c1, c2, c3, c4, -⟩ := id H
  have ht := ok.1.t23
  have hq := c2.2.2.2.2 _ (Nat.le_refl _)
  have ho := hq.ob2
  refine ipC_mono (cq_pure H) (ipC_mk [some (.ref T), some (.int x), none] rfl (Nat.le_of_ble_eq_true rfl) ?_)
  refine b75_0 c1 rfl c2.1 (Nat.zero_le _) (Nat.zero_le _) (t_gnow (d := d + 25) c2 ht) (kR ?_)
  by_cases e : isN x 6
  · obtain ⟨k, hk, rfl⟩ := e
    match k, hk with
    | 0, _ => exact c75_7 (tgt := 48) (by decide) (c75_48 ho rfl ⟨rfl, rfl, rfl⟩)
    | 1, _ => exact c75_7 (tgt := 53) (by decide) (c75_53 ho rfl ⟨rfl, rfl, rfl⟩)
    | 2, _ => exact c75_7 (tgt := 58) (by decide) (c75_58 c1 rfl c2.1 rfl c2.2.1.1 rfl ⟨rfl, rfl, rfl⟩)
    | 3, _ => exact c75_7 (tgt := 69) (by decide) (c75_69 ho rfl ⟨rfl, rfl, rfl⟩)
    | 4, _ => exact c75_7 (tgt := 74) (by decide) (c75_74 ho rfl ⟨rfl, rfl, rfl⟩)
    | 5, _ => exact c75_7 (tgt := 79) (by decide) (c75_79 ho rfl ⟨rfl, rfl, rfl⟩)
    | n + 6, h => exact absurd h (by omega)
  · rw [show aCount A x = -1 from prt_out e]
    refine b75_7 (tgt := 84) ?_ (b75_84 ⟨rfl, rfl, rfl⟩)
    unfold ipTab
    rw [if_pos (six e)]
    rfl
theorem c_walls (H : cls h z T A sol) (ok : abOK A) (x : Int32) : ipC sc (d + 27) 76 [.ref T, .int x] h z 0 0 (cQ h T z (aWalls (aP A) x) A sol) := by
  obtain ⟨im, c1, c2, c3, c4, -⟩ := id H
  have ht := ok.1.t23
  have hq : plIs h (T + 1 + 27 + 5 * A.1.2.1) 0 _ (aP A) := c2.2.2.2.2 _ (Nat.le_refl _)
  refine ipC_mono (cq_pure H) (ipC_mk [some (.ref T), some (.int x), none] rfl (Nat.le_of_ble_eq_true rfl) ?_)
  refine b76_0 c1 rfl c2.1 (Nat.zero_le _) (Nat.zero_le _) (t_gnow (d := d + 25) c2 ht) (kR ?_)
  refine b76_7 hq.ob2 (Nat.zero_le _) (Nat.zero_le _) (t_hasField (d := d + 25) hq x) (kI ?_)
  by_cases hf : isN x (aP A).2.length
  · rw [tB_t hf]
    obtain ⟨f, hf, rfl⟩ := hf
    rw [aWalls_t hq.sm hf]
    refine c76_13 (by omega) (fun r => absurd r (by decide)) (fun _ => ?_)
    exact c76_16 hq.ob2 (Nat.zero_le _) (Nat.zero_le _) (t_wallsIn (d := d + 25) hq hf) (kI (c76_21 (c76_25 ⟨rfl, rfl, rfl⟩)))
  · rw [tB_f hf, show aWalls (aP A) x = -1 from cI_f hf]
    exact b76_13 (fun _ => b76_24 (b76_25 ⟨rfl, rfl, rfl⟩)) (fun r => absurd rfl r)
theorem c_corners (H : cls h z T A sol) (ok : abOK A) (x y : Int32) : ipC sc (d + 27) 77 [.ref T, .int x, .int y] h z 0 0 (cQ h T z (aCorners (aP A) x y) A sol) := by
  obtain ⟨im, c1, c2, c3, c4, -⟩ := id H
  have ht := ok.1.t23
  have hq : plIs h (T + 1 + 27 + 5 * A.1.2.1) 0 _ (aP A) := c2.2.2.2.2 _ (Nat.le_refl _)
  refine ipC_mono (cq_pure H) (ipC_mk [some (.ref T), some (.int x), some (.int y), none] rfl (Nat.le_of_ble_eq_true rfl) ?_)
  refine b77_0 c1 rfl c2.1 (Nat.zero_le _) (Nat.zero_le _) (t_gnow (d := d + 25) c2 ht) (kR ?_)
  refine b77_7 hq.ob2 (Nat.zero_le _) (Nat.zero_le _) (t_hasWall (d := d + 24) hq x y) (kI ?_)
  by_cases hf : isWl (aP A) x y
  · rw [tB_t hf]
    obtain ⟨f, u, hf, hu, rfl, rfl⟩ := hf
    rw [aCorners_t hq.sm hf hu]
    refine c77_14 (by omega) (fun r => absurd r (by decide)) (fun _ => ?_)
    exact c77_17 hq.ob2 (Nat.zero_le _) (Nat.zero_le _) (t_cornersOn (d := d + 24) hq hf hu) (kI (c77_23 (c77_27 ⟨rfl, rfl, rfl⟩)))
  · rw [tB_f hf, show aCorners (aP A) x y = -1 from cI_f hf]
    exact b77_14 (fun _ => b77_26 (b77_27 ⟨rfl, rfl, rfl⟩)) (fun r => absurd rfl r)
theorem c_corner (H : cls h z T A sol) (ok : abOK A) (x y k : Int32) : ipC sc (d + 27) 78 [.ref T, .int x, .int y, .int k] h z 0 0 (cQ h T z (aCorner (aP A) x y k) A sol) := by
  obtain ⟨im, c1, c2, c3, c4, -⟩ := id H
  have ht := ok.1.t23
  have hq : plIs h (T + 1 + 27 + 5 * A.1.2.1) 0 _ (aP A) := c2.2.2.2.2 _ (Nat.le_refl _)
  refine ipC_mono (cq_pure H) (ipC_mk [some (.ref T), some (.int x), some (.int y), some (.int k), none] rfl (Nat.le_of_ble_eq_true rfl) ?_)
  refine b78_0 c1 rfl c2.1 (Nat.zero_le _) (Nat.zero_le _) (t_gnow (d := d + 25) c2 ht) (kR ?_)
  refine b78_7 hq.ob2 (Nat.zero_le _) (Nat.zero_le _) (t_hasCorner (d := d + 23) hq x y k) (kI ?_)
  by_cases hf : isCo (aP A) x y k
  · rw [tB_t hf]
    obtain ⟨f, u, i, hf, hu, hi, rfl, rfl, rfl⟩ := hf
    rw [aCorner_t hq.sm hf hu hi]
    refine c78_17 (by omega) (fun r => absurd r (by decide)) (fun _ => ?_)
    exact c78_20 hq.ob2 (Nat.zero_le _) (Nat.zero_le _) (t_spot (d := d + 25) hq (gD (d := []) hf) (gD (d := []) hu) (gD (d := 0) hi)) (kI (c78_28 (c78_32 ⟨rfl, rfl, rfl⟩)))
  · rw [tB_f hf, show aCorner (aP A) x y k = -1 from cI_f hf]
    exact b78_17 (fun _ => b78_31 (b78_32 ⟨rfl, rfl, rfl⟩)) (fun r => absurd rfl r)
theorem c_lives (H : cls h z T A sol) (ok : abOK A) (x : Int32) : ipC sc (d + 27) 79 [.ref T, .int x] h z 0 0 (cQ h T z (aLives (aP A) x) A sol) := by
  obtain ⟨im, c1, c2, c3, c4, -⟩ := id H
  have ht := ok.1.t23
  have hq : plIs h (T + 1 + 27 + 5 * A.1.2.1) 0 _ (aP A) := c2.2.2.2.2 _ (Nat.le_refl _)
  obtain ⟨-, sa, wf, ff, lf, hps, r1, r2, r3, r4, k1, k2, k3, k4⟩ := id hq
  simp only at k4
  have k4 : (aP A).1.length ≤ 31 := k4
  refine ipC_mono (cq_pure H) (ipC_mk [some (.ref T), some (.int x), none] rfl (Nat.le_of_ble_eq_true rfl) ?_)
  refine b79_0 c1 rfl c2.1 (Nat.zero_le _) (Nat.zero_le _) (t_gnow (d := d + 25) c2 ht) (kR ?_)
  have fin : ∀ o0 o1 o2 : Option Value, ¬ isN x (aP A).1.length → ip sc (ipC sc (d + 26)) 79 0 0 (qI (aLives (aP A) x) h z) 29 [o0, o1, o2] [] h z 0 0 := fun o0 o1 o2 r => by
    rw [show aLives (aP A) x = -1 from cI_f r]
    exact b79_29 (b79_30 ⟨rfl, rfl, rfl⟩)
  refine b79_7 (fun r => fin _ _ _ (isN_neg r (by omega))) (fun r => ?_)
  refine b79_12 (v_fs1_8 := nI (aP A).1.length) hq.ob2 rfl (fun r2 => fin _ _ _ (isN_ge r2 (by omega))) (fun r2 => ?_)
  obtain ⟨s, hs, rfl⟩ := isN_of r r2 (by omega)
  rw [aLives_t hs (by omega)]
  exact c79_20 hq.ob2 rfl hps.2.2.2.2 (by omega) (by decide) (rowL_at r1 (gD (d := 0) hs)) (c79_30 ⟨rfl, rfl, rfl⟩)
end CLS
