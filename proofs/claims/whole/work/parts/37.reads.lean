/-! raw ints of the script; which field, wall, corner, move there is -/
noncomputable def tB (p : Prop) : Nat := @ite Nat p (Classical.propDecidable p) 1 0
theorem tB_t {p : Prop} (h : p) : tB p = 1 := if_pos h
theorem tB_f {p : Prop} (h : ¬ p) : tB p = 0 := if_neg h
theorem tB_le {p : Prop} : tB p ≤ 1 := by
  by_cases h : p
  · rw [tB_t h]; omega
  · rw [tB_f h]; omega
theorem nar_tB {p : Prop} : narrow .boolean (.int (nI (tB p))) = .int (nI (tB p)) := by
  by_cases h : p
  · rw [tB_t h]; rfl
  · rw [tB_f h]; rfl
/-- x is the number of one of n things -/
def isN (x : Int32) (n : Nat) : Prop := ∃ k, k < n ∧ x = nI k
theorem isN_neg {x : Int32} {n : Nat} (hx : x < 0) (hn : n < 2147483648) : ¬ isN x n := by
  rintro ⟨k, hk, rfl⟩
  exact nI_pos (n := k) (by omega) hx
theorem isN_ge {x : Int32} {n : Nat} (hx : nI n ≤ x) (hn : n < 2147483648) : ¬ isN x n := by
  rintro ⟨k, hk, rfl⟩
  rw [nI_leI (by omega) (by omega)] at hx
  omega
theorem isN_of {x : Int32} {n : Nat} (h0 : ¬ x < 0) (h1 : ¬ nI n ≤ x) (hn : n < 2147483648) : isN x n := by
  obtain ⟨k, hk, rfl⟩ := nI_of h0
  rw [nI_leI (by omega) (by omega)] at h1
  exact ⟨k, by omega, rfl⟩
def isWl (P : PosT) (x y : Int32) : Prop := ∃ f u, f < P.2.length ∧ u < fl P f ∧ x = nI f ∧ y = nI u
def isCo (P : PosT) (x y k : Int32) : Prop := ∃ f u i, f < P.2.length ∧ u < fl P f ∧ i < wl P f u ∧ x = nI f ∧ y = nI u ∧ k = nI i
def lawful (P : PosT) (x1 x2 x3 x4 x5 x6 : Int32) : Prop := ∃ f u i v j s, x1 = nI f ∧ x2 = nI u ∧ x3 = nI i ∧ x4 = nI v ∧ x5 = nI j ∧ x6 = nI s ∧ legal P f u i v j s
theorem nI_inj {a b : Nat} (h : nI a = nI b) (ha : a < 2147483648) (hb : b < 2147483648) : a = b := (nI_eq (by omega) (by omega)).mp h
/-- a position is no larger than the rows hold -/
def sm (P : PosT) : Prop := P.2.length ≤ 100 ∧ (∀ f, fl P f ≤ 100) ∧ ∀ f u, wl P f u ≤ 200
theorem rowB.sm {P : PosT} (h : rowB P) : sm P := ⟨by have := h.2.1; omega, fun f => by have := rowB_fl h f; omega, fun f u => by have := rowB_wl h f u; omega⟩
theorem isWl_of {P : PosT} (hs : sm P) {f : Nat} {y : Int32} (hf : f < P.2.length) : isWl P (nI f) y ↔ isN y (fl P f) := by
  obtain ⟨h1, h2, h3⟩ := hs
  have := h2 f
  constructor
  · rintro ⟨f2, u, a1, a2, a3, rfl⟩
    have := nI_inj a3 (by omega) (by omega)
    subst this
    exact ⟨u, a2, rfl⟩
  · rintro ⟨u, a1, rfl⟩
    exact ⟨f, u, hf, a1, rfl, rfl⟩
theorem isCo_of {P : PosT} (hs : sm P) {f u : Nat} {k : Int32} (hf : f < P.2.length) (hu : u < fl P f) : isCo P (nI f) (nI u) k ↔ isN k (wl P f u) := by
  obtain ⟨h1, h2, h3⟩ := hs
  have := h2 f
  constructor
  · rintro ⟨f2, u2, i, a1, a2, a3, a4, a5, rfl⟩
    have := nI_inj a4 (by omega) (by omega)
    subst this
    have := nI_inj a5 (by omega) (by omega)
    subst this
    exact ⟨i, a3, rfl⟩
  · rintro ⟨i, a1, rfl⟩
    exact ⟨f, u, i, hf, hu, a1, rfl, rfl, rfl⟩
theorem isCo.wl {P : PosT} {x y k : Int32} (h : isCo P x y k) : isWl P x y := by
  obtain ⟨f, u, i, a1, a2, a3, a4, a5, a6⟩ := h
  exact ⟨f, u, a1, a2, a4, a5⟩
theorem isWl.fd {P : PosT} {x y : Int32} (h : isWl P x y) : isN x P.2.length := by
  obtain ⟨f, u, a1, a2, a4, a5⟩ := h
  exact ⟨f, a1, a4⟩
theorem plIs.sm {h : HP} {b le pc : Nat} {P : PosT} (H : plIs h b le pc P) : sm P := by
  obtain ⟨-, sa, wf, ff, lf, -, -, -, -, -, o1, o2, o3, o4⟩ := H
  rw [bC_c] at o1
  rw [bW_c] at o2
  simp only at o3
  refine ⟨by omega, fun f => ?_, fun f u => ?_⟩
  · by_cases e : f < P.2.length
    · have := take_fl (gD (d := []) e)
      unfold fl
      omega
    · rw [fl_out (by omega)]; omega
  · by_cases e : f < P.2.length
    · by_cases e2 : u < (P.2.getD f []).length
      · have h1 := take_fl (gD (d := []) e)
        have h4 := lSt_s (gD (d := []) e2)
        have h5 := lSt_le (l := P.2.getD f []) (f := u + 1)
        unfold wl
        omega
      · rw [wl_out (show fl P f ≤ u from Nat.not_lt.mp e2)]; omega
    · rw [wl_out (by rw [fl_out (by omega)]; omega)]; omega
theorem lawful_iff {P : PosT} (hs : sm P) {f u i v j : Nat} {x6 : Int32} (hf : f < P.2.length) (hu : u < fl P f) (hi : i < wl P f u) (hv : v < fl P f) (hj : j < wl P f v) : lawful P (nI f) (nI u) (nI i) (nI v) (nI j) x6 ↔ (u ≤ v ∧ (u = v → i ≤ j) ∧ canT P (f, u, i, v, j) = true ∧ isN x6 (sidesP P (f, u, i, v, j))) := by
  obtain ⟨h1, h2, h3⟩ := hs
  have := h2 f
  have := h3 f u
  have := h3 f v
  constructor
  · rintro ⟨f2, u2, i2, v2, j2, s2, a1, a2, a3, a4, a5, rfl, b1, b2, b3, b4, b5⟩
    obtain ⟨t1, t2, t3, t4, t5⟩ := of_decide_eq_true b1
    simp only at t1 t2 t3 t4 t5
    have := nI_inj a1 (by omega) (by omega)
    subst this
    have := h3 f u2
    have := h3 f v2
    have := nI_inj a2 (by omega) (by omega)
    subst this
    have := nI_inj a3 (by omega) (by omega)
    subst this
    have := nI_inj a4 (by omega) (by omega)
    subst this
    have := nI_inj a5 (by omega) (by omega)
    subst this
    exact ⟨b2, b3, b4, s2, b5, rfl⟩
  · rintro ⟨b2, b3, b4, s2, b5, rfl⟩
    exact ⟨f, u, i, v, j, s2, rfl, rfl, rfl, rfl, rfl, rfl, decide_eq_true ⟨hf, hu, hi, hv, hj⟩, b2, b3, b4, b5⟩
theorem lawful.co {P : PosT} {x1 x2 x3 x4 x5 x6 : Int32} (h : lawful P x1 x2 x3 x4 x5 x6) : isCo P x1 x2 x3 ∧ isCo P x1 x4 x5 := by
  obtain ⟨f, u, i, v, j, s, a1, a2, a3, a4, a5, a6, b1, b2, b3, b4, b5⟩ := h
  obtain ⟨t1, t2, t3, t4, t5⟩ := of_decide_eq_true b1
  exact ⟨⟨f, u, i, t1, t2, t3, a1, a2, a3⟩, ⟨f, v, j, t1, t4, t5, a1, a4, a5⟩⟩
section POS
variable {sc : ipSc} {d z b le pc m : Nat} {h : HP} {P : PosT}
theorem t_hasField (H : plIs h b le pc P) (x : Int32) : ipC sc (d + 1) 36 [.ref b, .int x] h z 0 0 (qI (nI (tB (isN x P.2.length))) h z) := by
  have hs := H.sm.1
  refine ipC_mk [some (.ref b), some (.int x)] rfl (Nat.le_of_ble_eq_true rfl) ?_
  have fin : ¬ isN x P.2.length → ip sc (ipC sc d) 36 0 0 (qI (nI (tB (isN x P.2.length))) h z) 16 [some (.ref b), some (.int x)] [] h z 0 0 := fun r => by
    rw [tB_f r]
    exact b36_16 (b36_17 rfl ⟨rfl, rfl, rfl⟩)
  refine b36_0 (fun r => fin (isN_neg r (by omega))) (fun r => ?_)
  refine b36_4 (v_fs1_7 := nI P.2.length) H.ob rfl (fun r2 => fin (isN_ge r2 (by omega))) (fun r2 => b36_12 (b36_17 rfl ?_))
  rw [tB_t (isN_of r r2 (by omega))]
  exact ⟨rfl, rfl, rfl⟩
theorem t_hasWall (H : plIs h b le pc P) (x y : Int32) : ipC sc (d + 2) 37 [.ref b, .int x, .int y] h z 0 0 (qI (nI (tB (isWl P x y))) h z) := by
  have hs := H.sm
  refine ipC_mk [some (.ref b), some (.int x), some (.int y)] rfl (Nat.le_of_ble_eq_true rfl) ?_
  have fin : ∀ o0 o1 o2 : Option Value, ¬ isWl P x y → ip sc (ipC sc (d + 1)) 37 0 0 (qI (nI (tB (isWl P x y))) h z) 25 [o0, o1, o2] [] h z 0 0 := fun o0 o1 o2 r => by
    rw [tB_f r]
    exact b37_25 (b37_26 rfl ⟨rfl, rfl, rfl⟩)
  refine b37_0 H.ob (Nat.zero_le _) (Nat.zero_le _) (t_hasField H x) (kI ?_)
  by_cases hf : isN x P.2.length
  · rw [tB_t hf]
    obtain ⟨f, hf, rfl⟩ := hf
    have h2 := hs.2.1 f
    refine b37_5 (fun r => absurd r (by decide)) (fun _ => b37_8 (fun r => fin _ _ _ ?_) (fun r => ?_))
    · rw [isWl_of hs hf]; exact isN_neg r (by omega)
    · refine b37_12 H.ob (Nat.zero_le _) (Nat.zero_le _) (t_wallsIn H hf) (kI (b37_18 (fun r2 => fin _ _ _ ?_) (fun r2 => b37_21 (b37_26 rfl ?_))))
      · rw [isWl_of hs hf]; exact isN_ge r2 (by omega)
      · rw [tB_t ((isWl_of hs hf).mpr (isN_of r r2 (by omega)))]
        exact ⟨rfl, rfl, rfl⟩
  · rw [tB_f hf]
    exact b37_5 (fun _ => fin _ _ _ (fun q => hf q.fd)) (fun r => absurd rfl r)
theorem t_hasCorner (H : plIs h b le pc P) (x y k : Int32) : ipC sc (d + 3) 38 [.ref b, .int x, .int y, .int k] h z 0 0 (qI (nI (tB (isCo P x y k))) h z) := by
  have hs := H.sm
  refine ipC_mk [some (.ref b), some (.int x), some (.int y), some (.int k)] rfl (Nat.le_of_ble_eq_true rfl) ?_
  have fin : ∀ o0 o1 o2 o3 : Option Value, ¬ isCo P x y k → ip sc (ipC sc (d + 2)) 38 0 0 (qI (nI (tB (isCo P x y k))) h z) 27 [o0, o1, o2, o3] [] h z 0 0 := fun o0 o1 o2 o3 r => by
    rw [tB_f r]
    exact b38_27 (b38_28 rfl ⟨rfl, rfl, rfl⟩)
  refine b38_0 H.ob (Nat.zero_le _) (Nat.zero_le _) (t_hasWall H x y) (kI ?_)
  by_cases hf : isWl P x y
  · rw [tB_t hf]
    obtain ⟨f, u, hf, hu, rfl, rfl⟩ := hf
    have h2 := hs.2.2 f u
    refine b38_6 (fun r => absurd r (by decide)) (fun _ => b38_9 (fun r => fin _ _ _ _ ?_) (fun r => ?_))
    · rw [isCo_of hs hf hu]; exact isN_neg r (by omega)
    · refine b38_13 H.ob (Nat.zero_le _) (Nat.zero_le _) (t_cornersOn H hf hu) (kI (b38_20 (fun r2 => fin _ _ _ _ ?_) (fun r2 => b38_23 (b38_28 rfl ?_))))
      · rw [isCo_of hs hf hu]; exact isN_ge r2 (by omega)
      · rw [tB_t ((isCo_of hs hf hu).mpr (isN_of r r2 (by omega)))]
        exact ⟨rfl, rfl, rfl⟩
  · rw [tB_f hf]
    exact b38_6 (fun _ => fin _ _ _ _ (fun q => hf q.wl)) (fun r => absurd rfl r)
theorem t_sides (H : plIs h b le pc P) (hw : wB P) {f u i v j : Nat} {x6 : Int32} (hm : h m = some (.inr (2, [.int (nI f), .int (nI u), .int (nI i), .int (nI v), .int (nI j), .int x6]))) (hf : f < P.2.length) (hu : u < fl P f) (hv : v < fl P f) : ipC sc (d + 2) 44 [.ref b, .ref m] h z 0 0 (qI (nI (sidesP P (f, u, i, v, j))) h z) := by
  have h31 := hw f
  have hsl := sides_lt (t := (f, u, i, v, j)) hw
  refine ipC_mk [some (.ref b), some (.ref m)] rfl (Nat.le_of_ble_eq_true rfl) ?_
  refine c44_0 (v_fs1_1 := u) (v_fs1_3 := v) hm rfl rfl (by omega) (by omega) (fun r => c44_26 (c44_27 ?_)) (fun r => ?_)
  · rw [show sidesP P (f, u, i, v, j) = 1 from if_neg r]
    exact ⟨rfl, rfl, rfl⟩
  · have r := Classical.not_not.mp r
    refine c44_11 (v_fs1_0 := f) hm rfl H.ob (Nat.zero_le _) (Nat.zero_le _) (t_wallsIn H hf) (kI (c44_20 (by omega) ?_))
    have e : sidesP P (f, u, i, v, j) = 1 * 2 ^ (fl P f - 1) := by rw [Nat.one_mul]; exact if_pos r
    rw [pk_shlN (nI (fl P f - 1) &&& 31) (fl P f - 1) (sm32 _ (by omega)) (by rw [← e]; omega), ← e]
    exact c44_27 ⟨rfl, rfl, rfl⟩
theorem t_allows (H : plIs h b le pc P) (hok : posOK P) (hw : wB P) {x1 x2 x3 x4 x5 x6 : Int32} (hm : h m = some (.inr (2, [.int x1, .int x2, .int x3, .int x4, .int x5, .int x6]))) : ipC sc (d + 4) 45 [.ref b, .ref m] h z 0 0 (qI (nI (tB (lawful P x1 x2 x3 x4 x5 x6))) h z) := by
  have hs := H.sm
  refine ipC_mk [some (.ref b), some (.ref m)] rfl (Nat.le_of_ble_eq_true rfl) ?_
  refine b45_0 (v_fs1_0 := x1) (v_fs1_1 := x2) (v_fs1_2 := x3) hm rfl rfl rfl H.ob (Nat.zero_le _) (Nat.zero_le _) (t_hasCorner H _ _ _) (kI ?_)
  by_cases h1 : isCo P x1 x2 x3
  · rw [tB_t h1]
    refine b45_16 (fun r => absurd r (by decide)) (fun _ => ?_)
    refine b45_19 (v_fs1_0 := x1) (v_fs1_3 := x4) (v_fs1_4 := x5) hm rfl rfl rfl H.ob (Nat.zero_le _) (Nat.zero_le _) (t_hasCorner H _ _ _) (kI ?_)
    by_cases h2 : isCo P x1 x4 x5
    · rw [tB_t h2]
      refine b45_35 (fun _ => ?_) (fun r => absurd (show ¬ (nI 1 = 0) by decide) r)
      obtain ⟨f, u, i, hf, hu, hi, rfl, rfl, rfl⟩ := h1
      obtain ⟨f2, v, j, hf2, hv, hj, e1, rfl, rfl⟩ := h2
      have q1 := hs.1
      have := nI_inj e1 (by omega) (by omega)
      subst this
      have q2 := hs.2.1 f
      have q3 := hs.2.2 f u
      have q4 := hs.2.2 f v
      have hsl := sides_lt (t := (f, u, i, v, j)) hw
      have li := lawful_iff (x6 := x6) hs hf hu hi hv hj
      have f73 : ¬ (u ≤ v ∧ (u = v → i ≤ j)) → ip sc (ipC sc (d + 3)) 45 0 0 (qI (nI (tB (lawful P (nI f) (nI u) (nI i) (nI v) (nI j) x6))) h z) 73 [some (.ref b), some (.ref m)] [] h z 0 0 := fun r => by
        rw [tB_f (fun q => by have := li.mp q; exact r ⟨this.1, this.2.1⟩)]
        exact b45_73 ⟨rfl, rfl, rfl⟩
      have f94 : ¬ isN x6 (sidesP P (f, u, i, v, j)) → ip sc (ipC sc (d + 3)) 45 0 0 (qI (nI (tB (lawful P (nI f) (nI u) (nI i) (nI v) (nI j) x6))) h z) 94 [some (.ref b), some (.ref m)] [] h z 0 0 := fun r => by
        rw [tB_f (fun q => by have := li.mp q; exact r this.2.2.2)]
        exact b45_94 ⟨rfl, rfl, rfl⟩
      have n75 : u ≤ v → (u = v → i ≤ j) → ip sc (ipC sc (d + 3)) 45 0 0 (qI (nI (tB (lawful P (nI f) (nI u) (nI i) (nI v) (nI j) x6))) h z) 75 [some (.ref b), some (.ref m)] [] h z 0 0 := fun r1 r2 => by
        refine b45_75 (v_fs1_5 := x6) hm rfl (fun r => f94 (isN_neg r (by omega))) (fun r => ?_)
        refine b45_82 (v_fs1_5 := x6) hm rfl H.ob (Nat.zero_le _) (Nat.zero_le _) (t_sides (i := i) (j := j) H hw hm hf hu hv) (kI (b45_91 (fun r3 => ?_) (fun r3 => ?_)))
        · have hn : isN x6 (sidesP P (f, u, i, v, j)) := isN_of r (fun q => by
            obtain ⟨k, hk, rfl⟩ := nI_of r
            rw [nI_ltI (by omega) (by omega)] at r3
            rw [nI_leI (by omega) (by omega)] at q
            omega) (by omega)
          have hF := gD (d := []) hf
          have hU : (P.2.getD f [])[u]? = some ((P.2.getD f []).getD u []) := gD hu
          have hV : (P.2.getD f [])[v]? = some ((P.2.getD f []).getD v []) := gD hv
          have hI : ((P.2.getD f []).getD u [])[i]? = some (((P.2.getD f []).getD u []).getD i 0) := gD hi
          have hJ : ((P.2.getD f []).getD v [])[j]? = some (((P.2.getD f []).getD v []).getD j 0) := gD hj
          have la := gD (d := 0) (hok.1 _ (mem_pC hF hU hI))
          have lb := gD (d := 0) (hok.1 _ (mem_pC hF hV hJ))
          refine b45_96 (v_fs1_0 := nI f) (v_fs1_1 := nI u) (v_fs1_2 := nI i) hm rfl rfl rfl H.ob (Nat.zero_le _) (Nat.zero_le _) (t_spot H hF hU hI) (kI ?_)
          refine b45_113 (v_fs1_0 := nI f) (v_fs1_3 := nI v) (v_fs1_4 := nI j) hm rfl rfl rfl H.ob (Nat.zero_le _) (Nat.zero_le _) (t_spot H hF hV hJ) (kI ?_)
          refine b45_129 H.ob (Nat.zero_le _) (Nat.zero_le _) (t_canMeet H la lb (hok.2 _ (List.mem_of_getElem? la)) (hok.2 _ (List.mem_of_getElem? lb))) (kI (b45_132 ?_ ?_))
          · cases cM P.1 _ _ <;> rfl
          · have e : tB (lawful P (nI f) (nI u) (nI i) (nI v) (nI j) x6) = (canT P (f, u, i, v, j)).toNat := by
              cases e2 : canT P (f, u, i, v, j)
              · exact tB_f (fun q => by have := (li.mp q).2.2.1; rw [e2] at this; cases this)
              · exact tB_t (li.mpr ⟨r1, r2, e2, hn⟩)
            rw [e]
            exact ⟨rfl, rfl, rfl⟩
        · refine f94 (fun ⟨k, hk, e⟩ => r3 ?_)
          rw [e]
          exact (nI_ltI (by omega) (by omega)).mpr hk
      refine c45_40 (v_fs1_1 := u) (v_fs1_3 := v) hm rfl rfl (by omega) (by omega) (fun r => f73 (by omega)) (fun r => ?_)
      refine c45_51 (v_fs1_1 := u) (v_fs1_3 := v) hm rfl rfl (by omega) (by omega) (fun r2 => n75 (by omega) (fun q => absurd q r2)) (fun r2 => ?_)
      exact c45_62 (v_fs1_2 := i) (v_fs1_4 := j) hm rfl rfl (by omega) (by omega) (fun r3 => n75 (by omega) (fun _ => r3)) (fun r3 => f73 (fun q => r3 (q.2 (Classical.not_not.mp r2))))
    · rw [tB_f h2, tB_f (fun q => h2 q.co.2)]
      exact b45_35 (fun r => absurd rfl r) (fun _ => b45_38 ⟨rfl, rfl, rfl⟩)
  · rw [tB_f h1, tB_f (fun q => h1 q.co.1)]
    exact b45_16 (fun _ => b45_38 ⟨rfl, rfl, rfl⟩) (fun r => absurd rfl r)
end POS
