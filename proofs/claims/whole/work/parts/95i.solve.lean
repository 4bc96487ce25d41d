/-! the class's nim, best, image; the making of the reference -/
def wS : Option Nat → Nat
  | none => 1
  | some _ => 0
def nQ (h : HP) (T z : Nat) (v : Int32) (A : Ab) (w : Nat) : ipQ := fun o h2 z2 => o = some (.int v) ∧ z ≤ z2 ∧ (∀ x, T + 150 ≤ x → x < T + 159 → h2 x = h x) ∧ ∃ sol2, cls h2 z2 T A sol2 ∧ wS sol2 = w
section CLS
variable {sc : ipSc} {d z T : Nat} {h h2 : HP} {A : Ab} {sol : Option Nat}
theorem cls.sv {S : Nat} (H : cls h z T A (some S)) (ok : abOK A) (he : ∀ x, (x < S ∨ S + 83 ≤ x) → x ≠ T + 149 → h2 x = h x) (s2 : slv h2 S) (m2 : mvO h2 (T + 149)) : cls h2 z T A (some S) := by
  obtain ⟨im, c1, c2, c3, c4, c5, c6, c7, c8⟩ := H
  obtain ⟨s1, q2, q3⟩ := c6 S rfl
  have ht := ok.1.t23
  refine ⟨im, (he _ (by omega) (by omega)).trans c1, c2.of ht fun x q1 q2 => he x (by omega) (by omega), (he _ (by omega) (by omega)).trans c3, m2, c5, fun S2 e => ?_, fun k hk => ?_, c8⟩
  · cases e
    exact ⟨s2, q2, q3⟩
  · refine (c7 k hk).of (Nat.le_refl _) (fun G e => ok.2 k G hk e) fun B x e p1 p2 => ?_
    have := (c7 k hk).at e
    have := c8.2 k B S hk e rfl
    exact he x (by omega) (by omega)
theorem t_cbs0 (H : cls h z T A sol) (ok : abOK A) (hl : 9 < (aP A).1.sum) : ipC sc (d + 2) 88 [.ref T] h z 0 0 (qI (nI 0) h z) := by
  obtain ⟨im, c1, c2, c3, c4, -⟩ := id H
  have ht := ok.1.t23
  have hq : plIs h (T + 1 + 27 + 5 * A.1.2.1) 0 _ (aP A) := c2.2.2.2.2 _ (Nat.le_refl _)
  have hsm : (aP A).1.sum < 1000 := ok.1.sum (Nat.le_refl _)
  refine ipC_mk [some (.ref T)] rfl (Nat.le_of_ble_eq_true rfl) ?_
  refine b88_0g (mc := 0) (ms := 0) c1 rfl c2.1 (by omega) (by omega) (t_gnow (d := d) c2 ht) (kR ?_)
  exact c88_7 hq.ob2 rfl (by omega) (fun r => absurd r (by omega)) (fun _ => c88_15 ⟨rfl, rfl, rfl⟩)
theorem t_cbs1 {S : Nat} (H : cls h z T A (some S)) (ok : abOK A) (hl : (aP A).1.sum ≤ 9) : ipC sc (d + 2) 88 [.ref T] h z 0 0 (qI (nI 1) h z) := by
  obtain ⟨im, c1, c2, c3, c4, -⟩ := id H
  have ht := ok.1.t23
  have hq : plIs h (T + 1 + 27 + 5 * A.1.2.1) 0 _ (aP A) := c2.2.2.2.2 _ (Nat.le_refl _)
  refine ipC_mk [some (.ref T)] rfl (Nat.le_of_ble_eq_true rfl) ?_
  refine b88_0g (mc := 0) (ms := 0) c1 rfl c2.1 (by omega) (by omega) (t_gnow (d := d) c2 ht) (kR ?_)
  exact c88_7 hq.ob2 rfl (by omega) (fun _ => c88_17 c1 rfl (c88_35 ⟨rfl, rfl, rfl⟩)) (fun r => absurd hl r)
theorem t_cbs2 (H : cls h z T A none) (ok : abOK A) (hl : (aP A).1.sum ≤ 9) : ipC sc (d + 3) 88 [.ref T] h z 83 15202 (fun o h2 z2 => o = some (.int (nI 1)) ∧ z2 = z + 83 ∧ (∀ x, T + 150 ≤ x → x < T + 159 → h2 x = h x) ∧ cls h2 z2 T A (some z)) := by
  obtain ⟨im, c1, c2, c3, c4, c5, c6, c7, c8⟩ := id H
  have ht := ok.1.t23
  have hq : plIs h (T + 1 + 27 + 5 * A.1.2.1) 0 _ (aP A) := c2.2.2.2.2 _ (Nat.le_refl _)
  refine ipC_mk [some (.ref T)] rfl (Nat.le_of_ble_eq_true rfl) ?_
  refine b88_0g (mc := 0) (ms := 0) c1 rfl c2.1 (by omega) (by omega) (t_gnow (d := d + 1) c2 ht) (kR ?_)
  refine c88_7 hq.ob2 rfl (by omega) (fun _ => c88_17n c1 rfl ?_) (fun r => absurd hl r)
  refine b88_24g (mc := 82) (ms := 15193) (by omega) (by omega) (by omega) (by omega) (t_slinit (d := d) (S := z) hup_eq) ?_
  rintro o h3 z3 ⟨rfl, rfl, hf3, H3⟩
  have he3 : ∀ x, x < z ∨ z + 83 ≤ x → h3 x = h x := fun x hx => (hf3 x hx).trans (hup_ne (by omega) rfl)
  refine c88_32 ((he3 _ (by omega)).trans c1) rfl (c88_35 ⟨rfl, rfl, fun x q1 q2 => hup_ne (by omega) (he3 x (by omega)), ?_⟩)
  have he : ∀ (e : hE) x, x ≠ T → (x < z ∨ z + 83 ≤ x) → hup h3 T e x = h x := fun e x q1 q2 => hup_ne q1 (he3 x q2)
  refine ⟨im, hup_eq, c2.of ht fun x q1 q2 => he _ x (by omega) (by omega), (he _ _ (by omega) (by omega)).trans c3, c4.off (he _ _ (by omega) (by omega)), by omega, fun S e => ?_, fun k hk => ?_, c8.1, fun k B S hk e1 e2 => ?_⟩
  · cases e
    exact ⟨H3.of fun x q1 q2 => hup_ne (by omega) rfl, by omega, by omega⟩
  · refine (c7 k hk).of (by omega) (fun G e => ok.2 k G hk e) fun B x e p1 p2 => ?_
    have := (c7 k hk).at e
    exact he _ x (by omega) (by omega)
  · cases e2
    have := (c7 k hk).at e1
    omega
theorem nim_go {h0 : HP} {z0 S MC MS c s : Nat} (H : cls h z T A (some S)) (ok : abOK A) (hl : (aP A).1.sum ≤ 9) (hz : z0 ≤ z) (h0e : ∀ x, T + 150 ≤ x → x < T + 159 → h x = h0 x) (hc : c ≤ MC) (hs : s ≤ MS) : ip sc (ipC sc (d + 27)) 86 MC MS (nQ h0 T z0 (nimI (aP A)) A 0) 7 [some (.ref T)] [] h z c s := by
  obtain ⟨im, c1, c2, c3, c4, c5, c6, c7, c8⟩ := id H
  have ht := ok.1.t23
  have hq : plIs h (T + 1 + 27 + 5 * A.1.2.1) 0 _ (aP A) := c2.2.2.2.2 _ (Nat.le_refl _)
  obtain ⟨s1, s2, s3⟩ := c6 S rfl
  refine b86_7g (mc := 0) (ms := 0) c1 rfl rfl c2.1 hc hs (t_gnow (d := d + 26) c2 ht) (kR ?_)
  refine b86_18g (mc := 0) (ms := 0) s1.1 hc hs (t_worth (d := d) s1 hq (by omega) (ok.1.vl (Nat.le_refl _)) hl) ?_
  rintro o h3 z3 ⟨rfl, rfl, hf3, H3⟩
  have ea : nimI (aP A) = nI (val (aP A)) := if_pos hl
  refine b86_21 (b86_25 ⟨by rw [ea], hz, fun x q1 q2 => (hf3 x (by omega)).trans (h0e x q1 q2), some S, ?_, rfl⟩)
  exact H.sv ok (fun x q1 q2 => hf3 x q1) H3 (c4.off (hf3 _ (by omega)))
theorem c_nim (H : cls h z T A sol) (ok : abOK A) : ∃ e w, w + e = wS sol ∧ ipC sc (d + 28) 86 [.ref T] h z (83 * e) (15202 * e) (nQ h T z (nimI (aP A)) A w) := by
  obtain ⟨im, c1, -⟩ := id H
  by_cases hl : (aP A).1.sum ≤ 9
  · cases sol with
    | none =>
      refine ⟨1, 0, rfl, ipC_mk [some (.ref T)] rfl (Nat.le_of_ble_eq_true rfl) ?_⟩
      refine b86_0g (mc := 83) (ms := 15202) c1 (by omega) (by omega) (t_cbs2 (d := d + 24) H ok hl) ?_
      rintro o h3 z3 ⟨rfl, rfl, hf3, H3⟩
      refine b86_4 (fun r => absurd r (by decide)) (fun _ => ?_)
      exact nim_go H3 ok hl (by omega) hf3 (by omega) (by omega)
    | some S =>
      refine ⟨0, 0, rfl, ipC_mk [some (.ref T)] rfl (Nat.le_of_ble_eq_true rfl) ?_⟩
      refine b86_0g (mc := 0) (ms := 0) c1 (by omega) (by omega) (t_cbs1 (d := d + 25) H ok hl) (kI ?_)
      refine b86_4 (fun r => absurd r (by decide)) (fun _ => ?_)
      exact nim_go H ok hl (by omega) (fun _ _ _ => rfl) (by omega) (by omega)
  · refine ⟨0, wS sol, rfl, ipC_mk [some (.ref T)] rfl (Nat.le_of_ble_eq_true rfl) ?_⟩
    refine b86_0g (mc := 0) (ms := 0) c1 (by omega) (by omega) (t_cbs0 (d := d + 25) H ok (by omega)) (kI ?_)
    have ea : nimI (aP A) = -1 := if_neg hl
    rw [ea]
    exact b86_4 (fun _ => b86_24 (b86_25 ⟨rfl, Nat.le_refl _, fun _ _ _ => rfl, sol, H, rfl⟩)) (fun r => absurd rfl r)
theorem best_go {h0 : HP} {z0 S MC MS c s : Nat} (H : cls h z T A (some S)) (ok : abOK A) (hl : (aP A).1.sum ≤ 9) (hz : z0 ≤ z) (h0e : ∀ x, T + 150 ≤ x → x < T + 159 → h x = h0 x) (hc : c ≤ MC) (hs : s ≤ MS) : ip sc (ipC sc (d + 27)) 87 MC MS (nQ h0 T z0 (bestI (aP A)) A 0) 7 [some (.ref T)] [] h z c s := by
  obtain ⟨im, c1, c2, c3, c4, c5, c6, c7, c8⟩ := id H
  have ht := ok.1.t23
  have iv := ok.1.iv (Nat.le_refl _)
  have hq : plIs h (T + 1 + 27 + 5 * A.1.2.1) 0 (gC A.1.1 A.1.2.2 A.1.2.1) (aP A) := c2.2.2.2.2 _ (Nat.le_refl _)
  obtain ⟨s1, s2, s3⟩ := c6 S rfl
  refine b87_7g (mc := 0) (ms := 0) c1 rfl rfl c2.1 hc hs (t_gnow (d := d + 26) c2 ht) (kR ?_)
  refine b87_18g (mc := 0) (ms := 0) c1 rfl s1.1 hc hs (t_first (d := d) s1 hq (by omega) c4 (by omega) (by omega) (ok.1.vl (Nat.le_refl _)) iv.wB hl (ok.1.pos (Nat.le_refl _)) (fun f u i v j s hL => (inv_mv iv hL).cap.1)) ?_
  rintro o h3 z3 ⟨rfl, rfl, H3, m3, hf3⟩
  have ea : bestI (aP A) = fzI (aP A) (mvs (aP A)) 0 := if_pos hl
  refine b87_25 (b87_29 ⟨by rw [ea], hz, fun x q1 q2 => (hf3 x (by omega) (by omega)).trans (h0e x q1 q2), some S, ?_, rfl⟩)
  exact H.sv ok (fun x q1 q2 => hf3 x q1 q2) H3 m3
theorem c_best (H : cls h z T A sol) (ok : abOK A) : ∃ e w, w + e = wS sol ∧ ipC sc (d + 28) 87 [.ref T] h z (83 * e) (15202 * e) (nQ h T z (bestI (aP A)) A w) := by
  obtain ⟨im, c1, -⟩ := id H
  by_cases hl : (aP A).1.sum ≤ 9
  · cases sol with
    | none =>
      refine ⟨1, 0, rfl, ipC_mk [some (.ref T)] rfl (Nat.le_of_ble_eq_true rfl) ?_⟩
      refine b87_0g (mc := 83) (ms := 15202) c1 (by omega) (by omega) (t_cbs2 (d := d + 24) H ok hl) ?_
      rintro o h3 z3 ⟨rfl, rfl, hf3, H3⟩
      refine b87_4 (fun r => absurd r (by decide)) (fun _ => ?_)
      exact best_go H3 ok hl (by omega) hf3 (by omega) (by omega)
    | some S =>
      refine ⟨0, 0, rfl, ipC_mk [some (.ref T)] rfl (Nat.le_of_ble_eq_true rfl) ?_⟩
      refine b87_0g (mc := 0) (ms := 0) c1 (by omega) (by omega) (t_cbs1 (d := d + 25) H ok hl) (kI ?_)
      refine b87_4 (fun r => absurd r (by decide)) (fun _ => ?_)
      exact best_go H ok hl (by omega) (fun _ _ _ => rfl) (by omega) (by omega)
  · refine ⟨0, wS sol, rfl, ipC_mk [some (.ref T)] rfl (Nat.le_of_ble_eq_true rfl) ?_⟩
    refine b87_0g (mc := 0) (ms := 0) c1 (by omega) (by omega) (t_cbs0 (d := d + 25) H ok (by omega)) (kI ?_)
    have ea : bestI (aP A) = -1 := if_neg hl
    rw [ea]
    exact b87_4 (fun _ => b87_28 (b87_29 ⟨rfl, Nat.le_refl _, fun _ _ _ => rfl, sol, H, rfl⟩)) (fun r => absurd rfl r)
/-- the image's notes are taken -/
theorem image_go {h0 : HP} {z0 c s k B n0 t0 i0 : Nat} {mv1 : Nat → MvT} {im : Nat → Option Nat} (ok : abOK A) (hk : k < 4) (c1 : h T = some (.inr (8, tFs T sol))) (c2 : gmIs h (T + 1) A.1.1 A.1.2.1 A.1.2.2) (c3 : h (T + 148) = some (.inl (6, 4, .inr (.inr (.inr (.inr im)))))) (c4 : mvO h (T + 149)) (c5 : T + 159 ≤ z) (c6 : ∀ S, sol = some S → slv h S ∧ T + 159 ≤ S ∧ S + 83 ≤ z) (hB : im k = some B) (nB : ntP h B n0 t0 i0 mv1) (b1 : T + 159 ≤ B) (b2 : B + 25 ≤ z) (c7 : ∀ i, i < 4 → i ≠ k → imC h z T (im i) (A.2 i)) (c8 : dis im sol) (hz : z0 ≤ z) (h0e : ∀ x, T + 150 ≤ x → x < T + 159 → h x = h0 x) (hc : c ≤ 25) (hs : s ≤ 164) : ip sc (ipC sc (d + 26)) 89 25 164 (cQ h0 T z0 (nI 1) (A.1, fun i => if i = k then some A.1 else A.2 i) sol) 33 [some (.ref T), some (.int (nI k))] [] h z c s := by
  have ht := ok.1.t23
  have hin : vp_in (nI k) 4 := vp_in_nI (by omega) (by omega)
  have hcl : (nI k).toNatClampNeg = k := nI_clamp (by omega)
  refine b89_33g (mc := 0) (ms := 0) c1 rfl c3 hin (by rw [hcl]; exact hB) rfl c2.1 rfl nB.1 hc hs (t_ntake (d := d + 24) nB c2.2.1 (by omega) ht) ?_
  rintro o h3 z3 ⟨rfl, rfl, hf3, H3⟩
  refine c89_49 ⟨rfl, hz, fun x q1 q2 => (hf3 x (by omega)).trans (h0e x q1 q2), im, (hf3 _ (by omega)).trans c1, c2.of ht fun x q1 q2 => hf3 x (by omega), (hf3 _ (by omega)).trans c3, c4.off (hf3 _ (by omega)), c5, fun S e => ?_, fun i hi => ?_, c8⟩
  · obtain ⟨s1, s2, s3⟩ := c6 S e
    have := c8.2 k B S hk hB e
    exact ⟨s1.of fun x q1 q2 => hf3 x (by omega), s2, s3⟩
  · by_cases e : i = k
    · subst e
      simp only [if_true]
      rw [hB]
      exact ⟨H3, b1, b2⟩
    · simp only [if_neg e]
      refine (c7 i hi e).of (Nat.le_refl _) (fun G q => ok.2 i G hi q) fun C x q p1 p2 => ?_
      have := c8.1 i k C B hi hk e q hB
      exact hf3 x (by omega)
theorem c_image (H : cls h z T A sol) (ok : abOK A) (x : Int32) : ipC sc (d + 27) 89 [.ref T, .int x] h z 25 164 (cQ h T z (aImage A x).1 (aImage A x).2 sol) := by
  obtain ⟨im, c1, c2, c3, c4, c5, c6, c7, c8⟩ := id H
  have ht := ok.1.t23
  refine ipC_mk [some (.ref T), some (.int x)] rfl (Nat.le_of_ble_eq_true rfl) ?_
  by_cases e : isN x 4
  · have ea : aImage A x = (nI 1, (A.1, fun k => if k = uI x then some A.1 else A.2 k)) := cI_t e
    rw [ea]
    obtain ⟨k, hk, rfl⟩ := e
    rw [uI_nI (by omega)]
    have hin : vp_in (nI k) 4 := vp_in_nI (by omega) (by omega)
    have hcl : (nI k).toNatClampNeg = k := nI_clamp (by omega)
    refine c89_0 (by omega) (fun r => absurd r (by omega)) (fun _ => c89_4 (by omega) (fun _ => ?_) (fun r => absurd hk r))
    have h7 := c7 k hk
    cases hi : im k with
    | none =>
      refine c89_11n c1 rfl c3 (by omega) (by decide) hi ?_
      refine b89_20g (mc := 24) (ms := 161) c1 rfl (by omega) (by omega) (by omega) (by omega) (t_ntinit (d := d + 24) (A := z) (mv := mv0) hup_eq) ?_
      rintro o h3 z3 ⟨rfl, rfl, hf3, H3⟩
      have he3 : ∀ x, x < z ∨ z + 25 ≤ x → h3 x = h x := fun x hx => (hf3 x hx).trans (hup_ne (by omega) rfl)
      refine c89_32 ((he3 _ (by omega)).trans c3) hk (by decide) H3.1 rfl ?_
      have he : ∀ (e : hE) x, x ≠ T + 148 → (x < z ∨ z + 25 ≤ x) → hup h3 (T + 148) e x = h x := fun e x q1 q2 => hup_ne q1 (he3 x q2)
      refine image_go (im := va_up im k (some z)) (B := z) (n0 := 0) (t0 := 0) (i0 := 0) (mv1 := mv0) ok hk ((he _ _ (by omega) (by omega)).trans c1) (c2.of ht fun x q1 q2 => he _ x (by omega) (by omega)) hup_eq (c4.off (he _ _ (by omega) (by omega))) (by omega) (fun S e => ?_) upE (H3.of (by omega) fun x q1 q2 => hup_ne (by omega) rfl) (by omega) (by omega) (fun i hi2 ne => ?_) ⟨fun i l B C hi2 hl ne q1 q2 => ?_, fun i B S hi2 q1 q2 => ?_⟩ (by omega) (fun x q1 q2 => he _ x (by omega) (by omega)) (by omega) (by omega)
      · obtain ⟨s1, s2, s3⟩ := c6 S e
        exact ⟨s1.of fun x q1 q2 => he _ x (by omega) (by omega), s2, by omega⟩
      · rw [upN ne]
        refine (c7 i hi2).of (by omega) (fun G q => ok.2 i G hi2 q) fun C x q p1 p2 => ?_
        have := (c7 i hi2).at q
        exact he _ x (by omega) (by omega)
      · by_cases e1 : i = k
        · subst e1
          rw [upE] at q1
          cases q1
          rw [upN (fun q => ne q.symm)] at q2
          have := (c7 l hl).at q2
          omega
        · rw [upN e1] at q1
          have := (c7 i hi2).at q1
          by_cases e2 : l = k
          · subst e2
            rw [upE] at q2
            cases q2
            omega
          · rw [upN e2] at q2
            exact c8.1 i l B C hi2 hl ne q1 q2
      · obtain ⟨s1, s2, s3⟩ := c6 S q2
        by_cases e1 : i = k
        · subst e1
          rw [upE] at q1
          cases q1
          omega
        · rw [upN e1] at q1
          exact c8.2 i B S hi2 q1 q2
    | some B =>
      refine c89_11 c1 rfl c3 (by omega) (by decide) hi ?_
      rw [hi] at h7
      cases hg : A.2 k with
      | none =>
        rw [hg] at h7
        exact h7.elim
      | some G =>
        rw [hg] at h7
        exact image_go ok hk c1 c2 c3 c4 c5 c6 hi h7.1 h7.2.1 h7.2.2 (fun i hi2 _ => c7 i hi2) c8 (Nat.le_refl _) (fun _ _ _ => rfl) (by omega) (by omega)
  · have ea : aImage A x = (nI 0, A) := cI_f e
    rw [ea]
    have fin : ∀ o0 o1 : Option Value, ip sc (ipC sc (d + 26)) 89 25 164 (cQ h T z (nI 0) A sol) 9 [o0, o1] [] h z 0 0 := fun o0 o1 => c89_9 (cq_pure H _ _ _ ⟨rfl, rfl, rfl⟩)
    refine b89_0 (fun _ => fin _ _) (fun r => b89_4 (fun r2 => absurd (isN_of (n := 4) r (fun q => ?_) (by decide)) e) (fun _ => fin _ _))
    have h1 := Int32.le_iff_toInt_le.mp q
    have h2 := Int32.lt_iff_toInt_lt.mp r2
    have h3 : (nI 4).toInt = 4 := by decide
    have h4 : (4 : Int32).toInt = 4 := by decide
    omega
end CLS
theorem t_mdinit {sc : ipSc} {d M : Nat} {h : HP} (hA : h M = some (.inr (9, ipDef 9))) : ipC sc (d + 3) 91 [.ref M] h (M + 1) 8 2476972 (fun o h2 z2 => o = none ∧ z2 = M + 9 ∧ frm M 9 h h2 ∧ rfs h2 M ((2, 0, mv0), fun _ => none)) := by
  rw [ipD9] at hA
  refine ipC_mk [some (.ref M)] rfl (Nat.le_of_ble_eq_true rfl) ?_
  refine b91_0g (mc := 0) (ms := 0) (by omega) (by omega) hA (by omega) rfl (by omega) (by omega) (by omega) (by omega) (by omega) (by omega) (by omega) (by omega) (by omega) (by omega) (by omega) (by omega) (by omega) (by omega) (by omega) (by omega) (by omega) (by omega) (by omega) (by omega) (by omega) (by omega) (by omega) (t_begins (d := d) (n := 2) (mv := mv0) (fs := mFs M 0 cur0 0 0) (al := fun _ => 0) ⟨hup_eq, rfl, ?_⟩ (by omega) (by omega)) ?_
  · repeat (first | exact hup_eq | refine hup_ne (by omega) ?_)
  · rintro o h2 z2 ⟨rfl, rfl, a2, rfl, R, ho⟩
    refine b91_72 ⟨rfl, rfl, fun x hx => ?_, a2, 0, cur0, 0, 0, fun _ => 0, ⟨⟨hup_ne (by omega) hup_eq, rfl, hup_eq⟩, ⟨0, rfl, by omega⟩, fun _ => 0, fun _ => 0, fun _ => 0, fun _ => 0, fun _ => 0, fun _ => 0, ?_, ?_, ?_, ?_, ?_, ?_, fun a _ => ⟨0, rfl, by omega, fun q => absurd q (by omega)⟩⟩, ?_, R, fun k hk => rfl⟩
    · repeat (refine hup_ne (by omega) ?_)
      rfl
    · repeat (first | exact hup_eq | refine hup_ne (by omega) ?_)
    · repeat (first | exact hup_eq | refine hup_ne (by omega) ?_)
    · repeat (first | exact hup_eq | refine hup_ne (by omega) ?_)
    · repeat (first | exact hup_eq | refine hup_ne (by omega) ?_)
    · repeat (first | exact hup_eq | refine hup_ne (by omega) ?_)
    · repeat (first | exact hup_eq | refine hup_ne (by omega) ?_)
    · repeat (first | exact hup_eq | refine hup_ne (by omega) ?_)
