/-! the reference's reads -/
theorem aWalls_t {P : PosT} (hs : sm P) {f : Nat} (hf : f < P.2.length) : aWalls P (nI f) = nI (fl P f) := by
  have := hs.1
  unfold aWalls
  rw [cI_t ⟨f, hf, rfl⟩, uI_nI (by omega)]
theorem aCorners_t {P : PosT} (hs : sm P) {f u : Nat} (hf : f < P.2.length) (hu : u < fl P f) : aCorners P (nI f) (nI u) = nI (wl P f u) := by
  have := hs.1
  have := hs.2.1 f
  unfold aCorners
  rw [cI_t ⟨f, u, hf, hu, rfl, rfl⟩, uI_nI (by omega), uI_nI (by omega)]
theorem aCorner_t {P : PosT} (hs : sm P) {f u i : Nat} (hf : f < P.2.length) (hu : u < fl P f) (hi : i < wl P f u) : aCorner P (nI f) (nI u) (nI i) = nI (((P.2.getD f []).getD u []).getD i 0) := by
  have := hs.1
  have := hs.2.1 f
  have := hs.2.2 f u
  unfold aCorner
  rw [cI_t ⟨f, u, i, hf, hu, hi, rfl, rfl, rfl⟩, uI_nI (by omega), uI_nI (by omega), uI_nI (by omega)]
theorem aLives_t {P : PosT} {s : Nat} (hs : s < P.1.length) (h : P.1.length ≤ 32) : aLives P (nI s) = nI (P.1.getD s 0) := by
  unfold aLives
  rw [cI_t ⟨s, hs, rfl⟩, uI_nI (by omega)]
section REF
variable {sc : ipSc} {d z M t0 : Nat} {h : HP} {fs : List Value} {al : Nat → Int32} {P : PosT}
theorem t_isIn (x : Int32) {k : Nat} (hk : k < 2147483648) : ipC sc (d + 1) 95 [.int x, .int (nI k)] h z 0 0 (qI (nI (tB (isN x k))) h z) := by
  refine ipC_mk [some (.int x), some (.int (nI k))] rfl (Nat.le_of_ble_eq_true rfl) ?_
  have fin : ∀ o0 o1 : Option Value, ¬ isN x k → ip sc (ipC sc d) 95 0 0 (qI (nI (tB (isN x k))) h z) 13 [o0, o1] [] h z 0 0 := fun o0 o1 r => by
    rw [tB_f r]
    exact c95_13 (c95_14 rfl ⟨rfl, rfl, rfl⟩)
  refine b95_0 (fun r => fin _ _ (isN_neg r hk)) (fun r => b95_4 (fun r2 => fin _ _ (isN_ge r2 hk)) (fun r2 => c95_9 (c95_14 rfl ?_)))
  rw [tB_t (isN_of r r2 hk)]
  exact ⟨rfl, rfl, rfl⟩
theorem t_isField (H : mdA h M fs al) (h0 : al 0 = nI t0) (ht : t0 ≤ 24) (HR : rowIs al (4 + 332 * t0) P) (x : Int32) : ipC sc (d + 3) 121 [.ref M, .int x] h z 0 0 (qI (nI (tB (isN x P.2.length))) h z) := by
  have hB := HR.2.2.2.2.2
  obtain ⟨a, rfl⟩ := nI_all x
  refine ipC_mk [some (.ref M), some (.int (nI a))] rfl (Nat.le_of_ble_eq_true rfl) ?_
  refine c121_0 H.1 H.2.1 (Nat.zero_le _) (Nat.zero_le _) (t_now H h0) (kI ?_)
  have := hB.2.1
  exact c121_9 H.2.2 (by omega) (by decide) HR.1.2.1 (Nat.zero_le _) (Nat.zero_le _) (t_isIn _ (by omega)) (kI (c121_15 nar_tB ⟨rfl, rfl, rfl⟩))
theorem t_isWall (H : mdA h M fs al) (h0 : al 0 = nI t0) (ht : t0 ≤ 24) (HR : rowIs al (4 + 332 * t0) P) (x y : Int32) : ipC sc (d + 4) 122 [.ref M, .int x, .int y] h z 0 0 (qI (nI (tB (isWl P x y))) h z) := by
  have hs := HR.2.2.2.2.2.sm
  obtain ⟨b, rfl⟩ := nI_all y
  refine ipC_mk [some (.ref M), some (.int x), some (.int (nI b))] rfl (Nat.le_of_ble_eq_true rfl) ?_
  have fin : ∀ o0 o1 o2 : Option Value, ¬ isWl P x (nI b) → ip sc (ipC sc (d + 3)) 122 0 0 (qI (nI (tB (isWl P x (nI b)))) h z) 33 [o0, o1, o2] [] h z 0 0 := fun o0 o1 o2 r => by
    rw [tB_f r]
    exact c122_33 (c122_34 rfl ⟨rfl, rfl, rfl⟩)
  refine b122_0 H.1 (Nat.zero_le _) (Nat.zero_le _) (t_isField H h0 ht HR x) (kI ?_)
  by_cases hf : isN x P.2.length
  · rw [tB_t hf]
    obtain ⟨f, hf, rfl⟩ := hf
    have q1 := hs.1
    have q2 := hs.2.1 f
    have q3 := HR.2.2.2.2.2.2.1
    refine c122_5 (by omega) (fun r => absurd r (by decide)) (fun _ => ?_)
    refine c122_8 H.1 H.2.1 (Nat.zero_le _) (Nat.zero_le _) (t_now (d := d + 1) H h0) (kI ?_)
    refine c122_17 (v6 := fl P f) H.2.2 (by omega) (by decide) (HR.fl (gD (d := []) hf)) (Nat.zero_le _) (Nat.zero_le _) (t_isIn _ (by omega)) (kI ?_)
    by_cases hu : isN (nI b) (fl P f)
    · rw [tB_t hu]
      refine c122_26 (by omega) (fun r => absurd r (by decide)) (fun _ => c122_29 (c122_34 rfl ?_))
      rw [tB_t ((isWl_of hs hf).mpr hu)]
      exact ⟨rfl, rfl, rfl⟩
    · rw [tB_f hu]
      exact c122_26 (by omega) (fun _ => fin _ _ _ (by rw [isWl_of hs hf]; exact hu)) (fun r => absurd rfl r)
  · rw [tB_f hf]
    obtain ⟨a, rfl⟩ := nI_all x
    exact c122_5 (by omega) (fun _ => fin _ _ _ (fun q => hf q.fd)) (fun r => absurd rfl r)
theorem t_isCorner (H : mdA h M fs al) (h0 : al 0 = nI t0) (ht : t0 ≤ 24) (HR : rowIs al (4 + 332 * t0) P) (x y k : Int32) : ipC sc (d + 5) 123 [.ref M, .int x, .int y, .int k] h z 0 0 (qI (nI (tB (isCo P x y k))) h z) := by
  have hs := HR.2.2.2.2.2.sm
  obtain ⟨b, rfl⟩ := nI_all k
  refine ipC_mk [some (.ref M), some (.int x), some (.int y), some (.int (nI b))] rfl (Nat.le_of_ble_eq_true rfl) ?_
  have fin : ∀ o0 o1 o2 o3 : Option Value, ¬ isCo P x y (nI b) → ip sc (ipC sc (d + 4)) 123 0 0 (qI (nI (tB (isCo P x y (nI b)))) h z) 30 [o0, o1, o2, o3] [] h z 0 0 := fun o0 o1 o2 o3 r => by
    rw [tB_f r]
    exact c123_30 (c123_31 rfl ⟨rfl, rfl, rfl⟩)
  refine b123_0 H.1 (Nat.zero_le _) (Nat.zero_le _) (t_isWall H h0 ht HR x y) (kI ?_)
  by_cases hf : isWl P x y
  · rw [tB_t hf]
    obtain ⟨f, u, hf, hu, rfl, rfl⟩ := hf
    have q1 := hs.2.2 f u
    refine c123_6 (by omega) (fun r => absurd r (by decide)) (fun _ => ?_)
    refine c123_9 H.1 (Nat.zero_le _) (Nat.zero_le _) (t_now (d := d + 2) H h0) (kI ?_)
    refine c123_15 H.1 (Nat.zero_le _) (Nat.zero_le _) (t_sizeOf (d := d + 2) H HR (by omega) hf hu) (kI ?_)
    refine c123_20 (Nat.zero_le _) (Nat.zero_le _) (t_isIn _ (by omega)) (kI ?_)
    by_cases hi : isN (nI b) (wl P f u)
    · rw [tB_t hi]
      refine c123_23 (by omega) (fun r => absurd r (by decide)) (fun _ => c123_26 (c123_31 rfl ?_))
      rw [tB_t ((isCo_of hs hf hu).mpr hi)]
      exact ⟨rfl, rfl, rfl⟩
    · rw [tB_f hi]
      exact c123_23 (by omega) (fun _ => fin _ _ _ _ (by rw [isCo_of hs hf hu]; exact hi)) (fun r => absurd rfl r)
  · rw [tB_f hf]
    obtain ⟨a, rfl⟩ := nI_all x
    obtain ⟨a2, rfl⟩ := nI_all y
    exact c123_6 (by omega) (fun _ => fin _ _ _ _ (fun q => hf q.wl)) (fun r => absurd rfl r)
theorem t_rwalls (H : mdA h M fs al) (h0 : al 0 = nI t0) (ht : t0 ≤ 24) (HR : rowIs al (4 + 332 * t0) P) (x : Int32) : ipC sc (d + 4) 124 [.ref M, .int x] h z 0 0 (qI (aWalls P x) h z) := by
  have hs := HR.2.2.2.2.2.sm
  refine ipC_mk [some (.ref M), some (.int x)] rfl (Nat.le_of_ble_eq_true rfl) ?_
  refine b124_0 H.1 (Nat.zero_le _) (Nat.zero_le _) (t_isField H h0 ht HR x) (kI ?_)
  by_cases hf : isN x P.2.length
  · rw [tB_t hf]
    obtain ⟨f, hf, rfl⟩ := hf
    have q3 := HR.2.2.2.2.2.2.1
    rw [aWalls_t hs hf]
    refine c124_5 (by omega) (fun r => absurd r (by decide)) (fun _ => ?_)
    refine c124_8 H.1 H.2.1 (Nat.zero_le _) (Nat.zero_le _) (t_now (d := d + 1) H h0) (kI ?_)
    exact c124_16 (v6 := fl P f) H.2.2 (by omega) (by decide) (HR.fl (gD (d := []) hf)) (c124_26 ⟨rfl, rfl, rfl⟩)
  · have e : aWalls P x = -1 := cI_f hf
    rw [tB_f hf, e]
    obtain ⟨a, rfl⟩ := nI_all x
    exact c124_5 (by omega) (fun _ => c124_25 (b124_26 ⟨rfl, rfl, rfl⟩)) (fun r => absurd rfl r)
theorem t_rcorners (H : mdA h M fs al) (h0 : al 0 = nI t0) (ht : t0 ≤ 24) (HR : rowIs al (4 + 332 * t0) P) (x y : Int32) : ipC sc (d + 5) 125 [.ref M, .int x, .int y] h z 0 0 (qI (aCorners P x y) h z) := by
  have hs := HR.2.2.2.2.2.sm
  refine ipC_mk [some (.ref M), some (.int x), some (.int y)] rfl (Nat.le_of_ble_eq_true rfl) ?_
  refine b125_0 H.1 (Nat.zero_le _) (Nat.zero_le _) (t_isWall H h0 ht HR x y) (kI ?_)
  by_cases hf : isWl P x y
  · rw [tB_t hf]
    obtain ⟨f, u, hf, hu, rfl, rfl⟩ := hf
    rw [aCorners_t hs hf hu]
    refine c125_6 (by omega) (fun r => absurd r (by decide)) (fun _ => ?_)
    refine c125_9 H.1 (Nat.zero_le _) (Nat.zero_le _) (t_now (d := d + 2) H h0) (kI ?_)
    exact c125_14 H.1 (Nat.zero_le _) (Nat.zero_le _) (t_sizeOf (d := d + 2) H HR (by omega) hf hu) (kI (c125_19 (c125_23 ⟨rfl, rfl, rfl⟩)))
  · have e : aCorners P x y = -1 := cI_f hf
    rw [tB_f hf, e]
    obtain ⟨a, rfl⟩ := nI_all x
    obtain ⟨a2, rfl⟩ := nI_all y
    exact c125_6 (by omega) (fun _ => c125_22 (b125_23 ⟨rfl, rfl, rfl⟩)) (fun r => absurd rfl r)
theorem t_rcorner (H : mdA h M fs al) (h0 : al 0 = nI t0) (ht : t0 ≤ 24) (HR : rowIs al (4 + 332 * t0) P) (x y k : Int32) : ipC sc (d + 6) 126 [.ref M, .int x, .int y, .int k] h z 0 0 (qI (aCorner P x y k) h z) := by
  have hs := HR.2.2.2.2.2.sm
  refine ipC_mk [some (.ref M), some (.int x), some (.int y), some (.int k)] rfl (Nat.le_of_ble_eq_true rfl) ?_
  refine b126_0 H.1 (Nat.zero_le _) (Nat.zero_le _) (t_isCorner H h0 ht HR x y k) (kI ?_)
  by_cases hf : isCo P x y k
  · rw [tB_t hf]
    obtain ⟨f, u, i, hf, hu, hi, rfl, rfl, rfl⟩ := hf
    rw [aCorner_t hs hf hu hi]
    refine c126_7 (by omega) (fun r => absurd r (by decide)) (fun _ => ?_)
    refine c126_10 H.1 (Nat.zero_le _) (Nat.zero_le _) (t_now (d := d + 3) H h0) (kI ?_)
    exact c126_15 H.1 (Nat.zero_le _) (Nat.zero_le _) (t_spotAt (d := d + 3) H HR (by omega) (gD (d := []) hf) (gD (d := []) hu) (gD (d := 0) hi)) (kI (c126_21 (c126_25 ⟨rfl, rfl, rfl⟩)))
  · have e : aCorner P x y k = -1 := cI_f hf
    rw [tB_f hf, e]
    obtain ⟨a, rfl⟩ := nI_all x
    obtain ⟨a2, rfl⟩ := nI_all y
    obtain ⟨a3, rfl⟩ := nI_all k
    exact c126_7 (by omega) (fun _ => c126_24 (b126_25 ⟨rfl, rfl, rfl⟩)) (fun r => absurd rfl r)
theorem t_rlives (H : mdA h M fs al) (h0 : al 0 = nI t0) (ht : t0 ≤ 24) (HR : rowIs al (4 + 332 * t0) P) (x : Int32) : ipC sc (d + 3) 127 [.ref M, .int x] h z 0 0 (qI (aLives P x) h z) := by
  have hl := HR.2.2.2.2.2.1
  obtain ⟨a, rfl⟩ := nI_all x
  refine ipC_mk [some (.ref M), some (.int (nI a))] rfl (Nat.le_of_ble_eq_true rfl) ?_
  refine c127_0 H.1 H.2.1 (Nat.zero_le _) (Nat.zero_le _) (t_now H h0) (kI ?_)
  refine c127_9 (v6 := P.1.length) H.2.2 (by omega) (by decide) HR.1.1 (Nat.zero_le _) (Nat.zero_le _) (t_isIn _ (by omega)) (kI ?_)
  by_cases hf : isN (nI a) P.1.length
  · rw [tB_t hf]
    obtain ⟨s, hf, e⟩ := hf
    rw [e, aLives_t hf hl]
    refine c127_15 (by omega) (fun r => absurd r (by decide)) (fun _ => ?_)
    refine c127_18 H.1 H.2.1 (Nat.zero_le _) (Nat.zero_le _) (t_now H h0) (kI ?_)
    exact c127_26 H.2.2 (by omega) (by decide) (HR.li (gD (d := 0) hf)) (c127_35 ⟨rfl, rfl, rfl⟩)
  · have e : aLives P (nI a) = -1 := cI_f hf
    rw [tB_f hf, e]
    exact c127_15 (by omega) (fun _ => c127_34 (b127_35 ⟨rfl, rfl, rfl⟩)) (fun r => absurd rfl r)
/-- a table over 0 .. 5 -/
theorem six {w : Int32} (hn : ¬ isN w 6) : w.toInt < 0 ∨ 5 < w.toInt := by
  by_cases h0 : w < 0
  · left
    exact Int32.lt_iff_toInt_lt.mp h0
  · right
    obtain ⟨j, hj, rfl⟩ := nI_of h0
    rw [nI_toInt hj]
    have : ¬ j < 6 := fun q => hn ⟨j, q, rfl⟩
    omega
theorem prt_out {x1 x2 x3 x4 x5 x6 w : Int32} (hn : ¬ isN w 6) : prt x1 x2 x3 x4 x5 x6 w = -1 := by
  have h : ∀ k, k < 6 → ¬ w = nI k := fun k hk q => hn ⟨k, hk, q⟩
  unfold prt
  rw [if_neg (h 0 (by omega)), if_neg (h 1 (by omega)), if_neg (h 2 (by omega)), if_neg (h 3 (by omega)), if_neg (h 4 (by omega)), if_neg (h 5 (by omega))]
variable {kn ms kz : Int32} {t : Cur} {c : Nat}
theorem t_rcount (H : mdl h M al kn t ms kz) (h0 : al 0 = nI t0) (ht : t0 ≤ 24) (HR : rowIs al (4 + 332 * t0) P) (hok : posOK P) (hlo : lone P) (hc : ∀ g, good P g → cntF g P.1.length = c) (x : Int32) : ipC sc (d + 3) 117 [.ref M, .int x] h z 0 0 (fun o h2 z2 => o = some (.int (prt (nI P.1.length) (nI P.2.length) (nI t0) (nI P.1.sum) (nI (pW P).length) (nI c) x)) ∧ z2 = z ∧ (h2 = h ∨ ∃ pf2, h2 = mP h M pf2)) := by
  have b1 := HR.2.2.2.2.2.1
  obtain ⟨pf, gf, ky, kf, sz, wf, a1, -⟩ := H.2.2
  have H := H.1
  refine ipC_mk [some (.ref M), some (.int x), none, none] rfl (Nat.le_of_ble_eq_true rfl) ?_
  refine b117_0 H.1 (Nat.zero_le _) (Nat.zero_le _) (t_now (d := d) H h0) (kI ?_)
  by_cases e : isN x 6
  · obtain ⟨k, hk, rfl⟩ := e
    match k, hk with
    | 0, _ => exact c117_4 (tgt := 48) (by decide) (c117_48 H.1 H.2.1 H.2.2 (by omega) (by decide) HR.1.1 ⟨rfl, rfl, Or.inl rfl⟩)
    | 1, _ => exact c117_4 (tgt := 57) (by decide) (c117_57 H.1 H.2.1 H.2.2 (by omega) (by decide) HR.1.2.1 ⟨rfl, rfl, Or.inl rfl⟩)
    | 2, _ => exact c117_4 (tgt := 66) (by decide) (c117_66 H.1 H.2.1 H.2.2 (by omega) (by decide) h0 ⟨rfl, rfl, Or.inl rfl⟩)
    | 3, _ => exact c117_4 (tgt := 73) (by decide) (c117_73 H.1 (Nat.zero_le _) (Nat.zero_le _) (t_livesOf (d := d + 1) H HR (by omega)) (kI (c117_78 ⟨rfl, rfl, Or.inl rfl⟩)))
    | 4, _ => exact c117_4 (tgt := 79) (by decide) (c117_79 H.1 H.2.1 H.2.2 (by omega) (by decide) HR.1.2.2.1 ⟨rfl, rfl, Or.inl rfl⟩)
    | 5, _ =>
      refine c117_4 (tgt := 88) (by decide) (c117_88 H.1 (Nat.zero_le _) (Nat.zero_le _) (t_pieces (d := d) H a1 HR (by omega) hok (fun x hx => (hlo x hx).1)) ?_)
      rintro o h2 z2 ⟨rfl, pf2, g, rfl, hg, rfl⟩
      rw [hc g hg]
      exact c117_93 ⟨rfl, rfl, Or.inr ⟨pf2, rfl⟩⟩
    | n + 6, h => exact absurd h (by omega)
  · rw [prt_out e]
    refine b117_4 (tgt := 94) ?_ (b117_94 ⟨rfl, rfl, Or.inl rfl⟩)
    unfold ipTab
    rw [if_pos (six e)]
    rfl
end REF
