/-! the reference's walk over moves -/
abbrev Cur : Type := Nat × Nat × Nat × Nat × Nat
def mFs (M : Nat) (kn : Int32) (t : Cur) (ms kz : Int32) : List Value := [.ref (M + 1), .ref (M + 2), .ref (M + 3), .ref (M + 4), .ref (M + 5), .int kn, .int (nI t.1), .int (nI t.2.1), .int (nI t.2.2.1), .int (nI t.2.2.2.1), .int (nI t.2.2.2.2), .int ms, .ref (M + 6), .ref (M + 7), .ref (M + 8), .int kz]
def mC (h : HP) (M : Nat) (kn : Int32) (t : Cur) (ms kz : Int32) : HP := hup h M (.inr (9, mFs M kn t ms kz))
theorem mC_mC {h : HP} {M : Nat} {kn kn2 : Int32} {t t2 : Cur} {ms ms2 kz kz2 : Int32} : mC (mC h M kn t ms kz) M kn2 t2 ms2 kz2 = mC h M kn2 t2 ms2 kz2 := hup_hup
theorem mdA.cur {h : HP} {M : Nat} {fs : List Value} {al : Nat → Int32} {kn : Int32} {t : Cur} {ms kz : Int32} (H : mdA h M fs al) : mdA (mC h M kn t ms kz) M (mFs M kn t ms kz) al := ⟨hup_eq, rfl, hup_ne (by omega) H.2.2⟩
def fl (P : PosT) (f : Nat) : Nat := (P.2.getD f []).length
def wl (P : PosT) (f u : Nat) : Nat := ((P.2.getD f []).getD u []).length
def isTh (P : PosT) (t : Cur) : Bool := decide (t.1 < P.2.length ∧ t.2.1 < fl P t.1 ∧ t.2.2.1 < wl P t.1 t.2.1 ∧ t.2.2.2.1 < fl P t.1 ∧ t.2.2.2.2 < wl P t.1 t.2.2.2.1)
def curB (t : Cur) : Prop := t.1 ≤ 32 ∧ t.2.1 ≤ 64 ∧ t.2.2.1 ≤ 200 ∧ t.2.2.2.1 ≤ 64 ∧ t.2.2.2.2 ≤ 201
theorem gD {α : Type} {l : List α} {k : Nat} {d : α} (h : k < l.length) : l[k]? = some (l.getD k d) := by
  rw [List.getD_eq_getElem?_getD, List.getElem?_eq_getElem h]
  rfl
theorem getD_out {α : Type} {l : List α} {k : Nat} {d : α} (h : l.length ≤ k) : l.getD k d = d := by
  rw [List.getD_eq_getElem?_getD, List.getElem?_eq_none h]
  rfl
theorem fl_out {P : PosT} {f : Nat} (h : P.2.length ≤ f) : fl P f = 0 := by unfold fl; rw [getD_out h]; rfl
theorem wl_out {P : PosT} {f u : Nat} (h : fl P f ≤ u) : wl P f u = 0 := by unfold wl; rw [getD_out h]; rfl
theorem rowB_fl {P : PosT} (h : rowB P) (f : Nat) : fl P f ≤ 64 := by
  by_cases e : f < P.2.length
  · have := take_fl (gD (d := []) e)
    have h2 := h.2.2.1
    have : (pW P).length = P.2.flatten.length := rfl
    unfold fl
    omega
  · rw [fl_out (by omega)]; omega
theorem rowB_wl {P : PosT} (h : rowB P) (f u : Nat) : wl P f u ≤ 200 := by
  by_cases e : f < P.2.length
  · by_cases e2 : u < (P.2.getD f []).length
    · have h1 := take_fl (gD (d := []) e)
      have h2 := h.2.2.2
      have h3 : (pC P).length = P.2.flatten.flatten.length := rfl
      have h4 := lSt_s (gD (d := []) e2)
      have h5 := lSt_le (l := P.2.getD f []) (f := u + 1)
      unfold wl
      omega
    · rw [wl_out (show fl P f ≤ u from Nat.not_lt.mp e2)]; omega
  · rw [wl_out (by rw [fl_out (by omega)]; omega)]; omega
section REF
variable {sc : ipSc} {d z M p q : Nat} {h : HP} {fs : List Value} {al a1 : Nat → Int32} {P : PosT} {kn ms kz : Int32}
theorem t_sizeOf (H : mdA h M fs al) (HR : rowIs al p P) (hp : p + 332 ≤ 52000) {f u : Nat} (hf : f < P.2.length) (hu : u < fl P f) : ipC sc (d + 2) 113 [.ref M, .int (nI p), .int (nI f), .int (nI u)] h z 0 0 (qI (nI (wl P f u)) h z) := by
  have hw : (pW P)[lSt P.2 f + u]? = some ((P.2.getD f []).getD u []) := lSt_at (gD hf) (gD hu)
  have hl := lt_some hw
  have hb := HR.2.2.2.2.2.2.2.1
  refine ipC_mk [some (.ref M), some (.int (nI p)), some (.int (nI f)), some (.int (nI u))] rfl (Nat.le_of_ble_eq_true rfl) ?_
  refine c113_0 H.1 H.2.1 (Nat.zero_le _) (Nat.zero_le _) (t_wallOf H HR hp (by omega)) (kI ?_)
  refine c113_14 H.2.2 (by omega) (by decide) (v6 := wl P f u) ?_ ⟨rfl, rfl, rfl⟩
  rw [Nat.add_assoc (p + 68)]
  exact HR.wl hw
theorem t_isThere {t : Cur} (H : mdA h M (mFs M kn t ms kz) al) (HR : rowIs al p P) (hp : p + 332 ≤ 52000) (hc : curB t) : ipC sc (d + 3) 115 [.ref M, .int (nI p)] h z 0 0 (qI (nI (isTh P t).toNat) h z) := by
  obtain ⟨f, u, i, v, j⟩ := t
  obtain ⟨k1, k2, k3, k4, k5⟩ := hc
  simp only at k1 k2 k3 k4 k5
  have hb := HR.2.2.2.2.2
  have hb1 := hb.2.1
  have hb2 := rowB_fl hb f
  have hb3 := rowB_wl hb f u
  have hb4 := rowB_wl hb f v
  have no : ∀ o0 o1 : Option Value, isTh P (f, u, i, v, j) = false → ip sc (ipC sc (d + 2)) 115 0 0 (qI (nI (isTh P (f, u, i, v, j)).toNat) h z) 101 [o0, o1] [] h z 0 0 := by
    intro o0 o1 e
    rw [e]
    exact c115_101 (c115_102 rfl ⟨rfl, rfl, rfl⟩)
  have nt : ∀ {A : Prop}, ¬ (f < P.2.length ∧ u < fl P f ∧ i < wl P f u ∧ v < fl P f ∧ j < wl P f v) → isTh P (f, u, i, v, j) = false := fun r => decide_eq_false r
  refine ipC_mk [some (.ref M), some (.int (nI p))] rfl (Nat.le_of_ble_eq_true rfl) ?_
  refine c115_0 (v_fs1_6 := f) H.1 rfl H.2.1 H.2.2 (by omega) (by decide) HR.1.2.1 (by omega) (by omega) (fun r => no _ _ (nt (A := True) (by omega))) (fun r1 => ?_)
  have hF : al (p + 36 + f) = nI (fl P f) := HR.fl (gD (by omega))
  refine c115_15 (v_fs1_6 := f) (v_fs1_7 := u) H.1 rfl H.2.1 rfl H.2.2 (by omega) (by decide) hF (by omega) (by omega) (fun r => no _ _ (nt (A := True) (by omega))) (fun r2 => ?_)
  refine c115_36 (v_fs1_6 := f) (v_fs1_7 := u) (v_fs1_8 := i) H.1 rfl rfl rfl (Nat.zero_le _) (Nat.zero_le _) (t_sizeOf H HR hp (by omega) (by omega)) (kI ?_)
  refine c115_53 (by omega) (by omega) (fun r => no _ _ (nt (A := True) (by omega))) (fun r3 => ?_)
  refine c115_56 (v_fs1_6 := f) (v_fs1_9 := v) H.1 rfl H.2.1 rfl H.2.2 (by omega) (by decide) hF (by omega) (by omega) (fun r => no _ _ (nt (A := True) (by omega))) (fun r4 => ?_)
  refine c115_77 (v_fs1_6 := f) (v_fs1_9 := v) (v_fs1_10 := j) H.1 rfl rfl rfl (Nat.zero_le _) (Nat.zero_le _) (t_sizeOf H HR hp (by omega) (by omega)) (kI ?_)
  refine c115_94 (by omega) (by omega) (fun r => no _ _ (nt (A := True) (by omega))) (fun r5 => ?_)
  rw [show isTh P (f, u, i, v, j) = true from decide_eq_true (by simp only; omega)]
  exact c115_97 (c115_102 rfl ⟨rfl, rfl, rfl⟩)
end REF
/-- the tuples from a place on, in THE ORDER -/
def seqJ (f u i v j n : Nat) : List Cur := (List.range' j (n - j)).map (fun k => (f, u, i, v, k))
def remV (P : PosT) (f u i v : Nat) : List Cur := ((List.range' v (fl P f - v)).map (fun k => seqJ f u i k 0 (wl P f k))).flatten
def remI (P : PosT) (f u i : Nat) : List Cur := ((List.range' i (wl P f u - i)).map (fun k => seqJ f u k u k (wl P f u) ++ remV P f u k (u + 1))).flatten
def remU (P : PosT) (f u : Nat) : List Cur := ((List.range' u (fl P f - u)).map (fun k => remI P f k 0)).flatten
def remF (P : PosT) (f : Nat) : List Cur := ((List.range' f (P.2.length - f)).map (fun k => remU P k 0)).flatten
def rem (P : PosT) (t : Cur) : List Cur := (if t.2.2.1 < wl P t.1 t.2.1 then seqJ t.1 t.2.1 t.2.2.1 t.2.2.2.1 t.2.2.2.2 (wl P t.1 t.2.2.2.1) ++ remV P t.1 t.2.1 t.2.2.1 (t.2.2.2.1 + 1) else []) ++ (remI P t.1 t.2.1 (t.2.2.1 + 1) ++ (remU P t.1 (t.2.1 + 1) ++ remF P (t.1 + 1)))
theorem rg_s {v n : Nat} (h : v < n) : List.range' v (n - v) = v :: List.range' (v + 1) (n - (v + 1)) := by
  rw [show n - v = (n - (v + 1)) + 1 by omega, List.range'_succ]
theorem rg_e {v n : Nat} (h : n ≤ v) : List.range' v (n - v) = [] := by rw [show n - v = 0 by omega]; rfl
theorem seqJ_e {f u i v j n : Nat} (h : n ≤ j) : seqJ f u i v j n = [] := by unfold seqJ; rw [rg_e h]; rfl
theorem seqJ_s {f u i v j n : Nat} (h : j < n) : seqJ f u i v j n = (f, u, i, v, j) :: seqJ f u i v (j + 1) n := by unfold seqJ; rw [rg_s h]; rfl
theorem remV_e {P : PosT} {f u i v : Nat} (h : fl P f ≤ v) : remV P f u i v = [] := by unfold remV; rw [rg_e h]; rfl
theorem remV_s {P : PosT} {f u i v : Nat} (h : v < fl P f) : remV P f u i v = seqJ f u i v 0 (wl P f v) ++ remV P f u i (v + 1) := by unfold remV; rw [rg_s h]; rfl
theorem remI_e {P : PosT} {f u i : Nat} (h : wl P f u ≤ i) : remI P f u i = [] := by unfold remI; rw [rg_e h]; rfl
theorem remI_s {P : PosT} {f u i : Nat} (h : i < wl P f u) : remI P f u i = (seqJ f u i u i (wl P f u) ++ remV P f u i (u + 1)) ++ remI P f u (i + 1) := by unfold remI; rw [rg_s h]; rfl
theorem remU_e {P : PosT} {f u : Nat} (h : fl P f ≤ u) : remU P f u = [] := by unfold remU; rw [rg_e h]; rfl
theorem remU_s {P : PosT} {f u : Nat} (h : u < fl P f) : remU P f u = remI P f u 0 ++ remU P f (u + 1) := by unfold remU; rw [rg_s h]; rfl
theorem remF_e {P : PosT} {f : Nat} (h : P.2.length ≤ f) : remF P f = [] := by unfold remF; rw [rg_e h]; rfl
theorem remF_s {P : PosT} {f : Nat} (h : f < P.2.length) : remF P f = remU P f 0 ++ remF P (f + 1) := by unfold remF; rw [rg_s h]; rfl
theorem rem_v {P : PosT} {f u i v j : Nat} (hi : i < wl P f u) (hj : wl P f v ≤ j) : rem P (f, u, i, v, j) = rem P (f, u, i, v + 1, 0) := by
  unfold rem
  simp only
  rw [if_pos hi, if_pos hi, seqJ_e hj]
  by_cases e : v + 1 < fl P f
  · rw [remV_s e]; rfl
  · rw [remV_e (by omega), remV_e (show fl P f ≤ v + 1 + 1 by omega), seqJ_e (by rw [wl_out (by omega)]; omega)]
theorem rem_i {P : PosT} {f u i v j : Nat} (hi : i < wl P f u) (hv : fl P f ≤ v) : rem P (f, u, i, v, j) = rem P (f, u, i + 1, u, i + 1) := by
  unfold rem
  simp only
  rw [if_pos hi, remV_e (by omega), seqJ_e (by rw [wl_out hv]; omega)]
  by_cases e : i + 1 < wl P f u
  · rw [if_pos e, remI_s e, List.append_assoc (seqJ _ _ _ _ _ _ ++ _)]; rfl
  · rw [if_neg e, remI_e (by omega), remI_e (show wl P f u ≤ i + 1 + 1 by omega)]; rfl
theorem rem_u {P : PosT} {f u i v j : Nat} (hi : wl P f u ≤ i) : rem P (f, u, i, v, j) = rem P (f, u + 1, 0, u + 1, 0) := by
  unfold rem
  simp only
  rw [if_neg (by omega), remI_e (by omega)]
  by_cases e : u + 1 < fl P f
  · rw [remU_s e]
    by_cases e2 : 0 < wl P f (u + 1)
    · rw [if_pos e2, remI_s e2]
      simp only [List.append_assoc, List.nil_append]
    · rw [if_neg e2, remI_e (show wl P f (u + 1) ≤ 0 by omega), remI_e (show wl P f (u + 1) ≤ 0 + 1 by omega)]
      simp only [List.append_assoc, List.nil_append]
  · have hw : wl P f (u + 1) = 0 := wl_out (by omega)
    rw [remU_e (by omega), remU_e (show fl P f ≤ u + 1 + 1 by omega), if_neg (by omega), remI_e (by omega)]
theorem rem_f {P : PosT} {f u i v j : Nat} (hu : fl P f ≤ u) : rem P (f, u, i, v, j) = rem P (f + 1, 0, 0, 0, 0) := by
  have hw : wl P f u = 0 := wl_out hu
  unfold rem
  simp only
  rw [if_neg (by omega), remI_e (by omega), remU_e (by omega)]
  by_cases e : f + 1 < P.2.length
  · rw [remF_s e]
    by_cases e3 : 0 < fl P (f + 1)
    · rw [remU_s e3]
      by_cases e2 : 0 < wl P (f + 1) 0
      · rw [if_pos e2, remI_s e2]
        simp only [List.append_assoc, List.nil_append]
      · rw [if_neg e2, remI_e (show wl P (f + 1) 0 ≤ 0 by omega), remI_e (show wl P (f + 1) 0 ≤ 0 + 1 by omega)]
        simp only [List.append_assoc, List.nil_append]
    · have hw2 : wl P (f + 1) 0 = 0 := wl_out (by omega)
      rw [if_neg (by omega), remU_e (show fl P (f + 1) ≤ 0 by omega), remI_e (by omega), remU_e (show fl P (f + 1) ≤ 0 + 1 by omega)]
      rfl
  · have h1 : fl P (f + 1) = 0 := fl_out (by omega)
    have h2 : wl P (f + 1) 0 = 0 := wl_out (by omega)
    rw [remF_e (by omega), if_neg (by omega), remI_e (by omega), remU_e (by omega), remF_e (show P.2.length ≤ f + 1 + 1 by omega)]
theorem rem_end {P : PosT} {f u i v j : Nat} (hf : P.2.length ≤ f) : rem P (f, u, i, v, j) = [] := by
  have h1 : fl P f = 0 := fl_out hf
  have h2 : wl P f u = 0 := wl_out (by omega)
  unfold rem
  simp only
  rw [if_neg (by omega), remI_e (by omega), remU_e (by omega), remF_e (by omega)]
  rfl
theorem rem_at {P : PosT} {f u i v j : Nat} (hi : i < wl P f u) (hj : j < wl P f v) : rem P (f, u, i, v, j) = (f, u, i, v, j) :: rem P (f, u, i, v, j + 1) := by
  unfold rem
  simp only
  rw [if_pos hi, if_pos hi, seqJ_s hj]
  rfl
