/-! the class's Solver: firstToZero -/
/-- the number of the first move to a position without worth -/
def fzI (P : PosT) : List MvT → Nat → Int32
  | [], _ => -1
  | m :: l, k => if val (mvD P m) = 0 then nI k else fzI P l (k + 1)
section POS
variable {sc : ipSc} {d z q pc2 m : Nat} {h : HP} {P : PosT}
set_option maxHeartbeats 2000000 in
theorem t_first {S le2 : Nat} (H : slv h S) (HQ : plIs h q le2 pc2 P) (hd : q + 5 ≤ S ∨ S + 83 ≤ q) (hm : mvO h m) (hmS : m < S ∨ S + 83 ≤ m) (hmq : m < q ∨ q + 5 ≤ m) (hv : vld P) (hw : wB P) (hs : P.1.sum ≤ 9) (hpc : 1 ≤ pc2) (hcap : ∀ f u i v j s, legal P f u i v j s → capC (doMv P f u i v j s)) : ipC sc (d + 2 * 9 + 9) 67 [.ref S, .ref q, .ref m] h z 0 0 (fun o h2 z2 => o = some (.int (fzI P (mvs P) 0)) ∧ z2 = z ∧ slv h2 S ∧ mvO h2 m ∧ ∀ x, (x < S ∨ S + 83 ≤ x) → x ≠ m → h2 x = h x) := by
  obtain ⟨-, sa, wf, ff, lf, hps, r1, r2, r3, r4, k1, k2, k3, k4⟩ := id HQ
  rw [bC_c] at k1
  have hC : P.2.flatten.flatten = pC P := rfl
  rw [hC] at k1
  have hpl := prs_len (P := P)
  have hpl2 : (pC P).length * (pC P).length ≤ 10000 := Nat.mul_le_mul k1 k1
  generalize hQ : (fun (o : Option Value) (h2 : HP) (z2 : Nat) => o = some (.int (fzI P (mvs P) 0)) ∧ z2 = z ∧ slv h2 S ∧ mvO h2 m ∧ ∀ x, (x < S ∨ S + 83 ≤ x) → x ≠ m → h2 x = h x) = Q0
  refine ipC_mk [some (.ref S), some (.ref q), some (.ref m), none, none, none, none] rfl (Nat.le_of_ble_eq_true rfl) ?_
  obtain ⟨x1, x2, x3, x4, x5, x6, hm0⟩ := hm
  refine c67_0 hm0 (Nat.zero_le _) (Nat.zero_le _) (t_rewind (d := d + 25) hm0) ?_
  rintro o h2 z2 ⟨rfl, rfl, rfl⟩
  refine c67_6 ?_
  have upm : ∀ {h3 : HP} {e : hE}, slv h3 S → slv (hup h3 m e) S := fun {h3 e} H3 => by
    have he : ∀ x, S ≤ x → x < S + 83 → hup h3 m e x = h3 x := fun x a b => hup_ne (by omega) rfl
    have := H3.mo (h2 := hup h3 m e)
    obtain ⟨c1, ⟨fl, tm, fi, la, lk, c2⟩, ⟨sg, fr, wr, tx, so, tu, wk, en, nr, wc, hi, lo, c3⟩, c4, ⟨pc5, B5, c5⟩, ⟨r6, c6, d6⟩, ⟨r7, c7, d7⟩, ⟨ph, c8⟩, ⟨pl, c9⟩, ⟨lf, c10⟩, c11, c12⟩ := H3
    exact ⟨(he _ (by omega) (by omega)).trans c1, ⟨fl, tm, fi, la, lk, c2.off fun x a b => he x (by omega) (by omega)⟩, ⟨sg, fr, wr, tx, so, tu, wk, en, nr, wc, hi, lo, c3.off fun x a b => he x (by omega) (by omega)⟩, c4.off fun x a b => he x (by omega) (by omega), ⟨pc5, B5, c5.off fun x a b => he x (by omega) (by omega)⟩, ⟨r6, (he _ (by omega) (by omega)).trans c6, d6⟩, ⟨r7, (he _ (by omega) (by omega)).trans c7, d7⟩, ⟨ph, (he _ (by omega) (by omega)).trans c8⟩, ⟨pl, (he _ (by omega) (by omega)).trans c9⟩, ⟨lf, (he _ (by omega) (by omega)).trans c10⟩, fun k hk => ⟨_, _, (c11 k hk).choose_spec.choose_spec.off fun x a b => he x (by omega) (by omega)⟩, fun k hk => by
      obtain ⟨y1, y2, y3, y4, y5, y6, e⟩ := c12 k hk
      exact ⟨y1, y2, y3, y4, y5, y6, (he _ (by omega) (by omega)).trans e⟩⟩
  have PQ : ∀ h3 : HP, (∀ x, (x < S ∨ S + 83 ≤ x) → x ≠ m → h3 x = h x) → plIs h3 q le2 pc2 P := fun h3 hf => HQ.off fun x a b => hf x (by omega) (by omega)
  have loop : ∀ (j2 : Nat) (pre L : List Cur) (k : Nat) (h3 : HP) (xs : Int32) (o5 o6 : Option Value), L.length ≤ j2 → prs P cur0 = pre ++ L → slv h3 S → (∀ x, (x < S ∨ S + 83 ≤ x) → x ≠ m → h3 x = h x) → wk P h3 m L xs → fzI P (mvp P L) k = fzI P (mvs P) 0 → ip sc (ipC sc (d + 2 * 9 + 8)) 67 0 0 Q0 9 [some (.ref S), some (.ref q), some (.ref m), some (.int (nI k)), some (.int (nI pre.length)), o5, o6] [] h3 z2 0 0 := by
    intro j2
    induction j2 with
    | zero =>
      intro pre L k h3 xs o5 o6 hl hpre H3 hf3 W3 hans
      have hL0 : L = [] := List.length_eq_zero_iff.mp (by omega)
      subst hL0
      have hlen : pre.length ≤ 10000 := by
        have := congrArg List.length hpre
        rw [List.length_append] at this
        omega
      refine c67_9 (by omega) (fun r => absurd r (by omega)) (fun _ => ?_)
      refine c67_16 (PQ h3 hf3).ob (Nat.zero_le _) (Nat.zero_le _) (t_nextPair2 (d := d + 22) (PQ h3 hf3) hv.1 hmq W3) ?_
      rintro o h4 z4 ⟨rfl, t4, rfl, ⟨rfl, -⟩ | ⟨rfl, -, -, e⟩⟩
      · refine c67_21 (by omega) (fun _ => c67_81 ?_) (fun r => absurd rfl r)
        rw [← hQ]
        have : fzI P (mvs P) 0 = -1 := hans.symm
        rw [this]
        exact ⟨rfl, rfl, upm H3, .mM, fun x a b => hup_ne b (hf3 x a b)⟩
      · cases e
    | succ j2 ihj =>
      intro pre L k h3 xs o5 o6 hl hpre H3 hf3 W3 hans
      have hlen : pre.length + L.length ≤ 10000 := by
        have := congrArg List.length hpre
        rw [List.length_append] at this
        omega
      refine c67_9 (by omega) (fun r => absurd r (by omega)) (fun _ => ?_)
      refine c67_16 (PQ h3 hf3).ob (Nat.zero_le _) (Nat.zero_le _) (t_nextPair2 (d := d + 22) (PQ h3 hf3) hv.1 hmq W3) ?_
      rintro o h4 z4 ⟨rfl, t4, rfl, ⟨rfl, e⟩ | ⟨rfl, hth, hcan, e⟩⟩
      · refine c67_21 (by omega) (fun _ => c67_81 ?_) (fun r => absurd rfl r)
        rw [← hQ]
        subst e
        have : fzI P (mvs P) 0 = -1 := hans.symm
        rw [this]
        exact ⟨rfl, rfl, upm H3, .mM, fun x a b => hup_ne b (hf3 x a b)⟩
      · obtain ⟨f, u, i, v, j⟩ := t4
        have hmem : (f, u, i, v, j) ∈ prs P cur0 := by rw [hpre, e]; simp
        obtain ⟨t1, t2, t3, t4, t5⟩ := of_decide_eq_true hth
        simp only at t1 t2 t3 t4 t5
        have hsl := sides_lt (t := (f, u, i, v, j)) hw
        have hf4 : ∀ x, (x < S ∨ S + 83 ≤ x) → x ≠ m → mM h3 m (f, u, i, v, j) xs x = h x := fun x a b => hup_ne b (hf3 x a b)
        refine c67_21 (by omega) (fun r => absurd r (by omega)) (fun _ => ?_)
        refine c67_24 (PQ _ hf4).ob (Nat.zero_le _) (Nat.zero_le _) (t_sides (d := d + 24) (PQ _ hf4) hw mM_eq t1 t2 t4) (kI (c67_29 ?_))
        have sides : ∀ (m2 s k : Nat) (h7 : HP) (xs7 : Int32), s + m2 = sidesP P (f, u, i, v, j) → slv h7 S → (∀ x, (x < S ∨ S + 83 ≤ x) → x ≠ m → h7 x = h x) → h7 m = some (.inr (2, [.int (nI f), .int (nI u), .int (nI i), .int (nI v), .int (nI j), .int xs7])) → fzI P ((sdL P (f, u, i, v, j)).drop s ++ mvp P (prs P (curN (f, u, i, v, j)))) k = fzI P (mvs P) 0 → ip sc (ipC sc (d + 2 * 9 + 8)) 67 0 0 Q0 34 [some (.ref S), some (.ref q), some (.ref m), some (.int (nI k)), some (.int (nI pre.length)), some (.int (nI (sidesP P (f, u, i, v, j)))), some (.int (nI s))] [] h7 z4 0 0 := by
          intro m2
          induction m2 with
          | zero =>
            intro s k h7 xs7 hs2 H7 hf7 hm7 hans7
            refine c67_34 (by omega) (by omega) (fun _ => c67_75 ?_) (fun r => absurd (by omega) r)
            rw [List.drop_eq_nil_of_le (by rw [sdL_len]; omega), List.nil_append] at hans7
            have hlp : (pre ++ [((f, u, i, v, j) : Cur)]).length = pre.length + 1 := by simp
            have := ihj (pre ++ [(f, u, i, v, j)]) (prs P (curN (f, u, i, v, j))) k h7 xs7 (some (.int (nI (sidesP P (f, u, i, v, j))))) (some (.int (nI s))) (by rw [e, List.length_cons] at hl; omega) (by rw [hpre, e]; simp) H7 hf7 (wk_at (PQ h7 hf7).sm hth hm7) hans7
            rw [hlp] at this
            exact this
          | succ m2 ihs =>
            intro s k h7 xs7 hs2 H7 hf7 hm7 hans7
            have hL : legal P f u i v j s := prs_legal hmem (by omega)
            have hsum2 := mv_sum hL
            obtain ⟨pc5, B5, hB5⟩ := H7.2.2.2.2.1
            rw [drop_cons (sdL_at (by omega)), List.cons_append] at hans7
            have hstep : fzI P (((f, u, i, v, j), s) :: ((sdL P (f, u, i, v, j)).drop (s + 1) ++ mvp P (prs P (curN (f, u, i, v, j))))) k = if val (doMv P f u i v j s) = 0 then nI k else fzI P ((sdL P (f, u, i, v, j)).drop (s + 1) ++ mvp P (prs P (curN (f, u, i, v, j)))) (k + 1) := rfl
            rw [hstep] at hans7
            have hf8 : ∀ x, (x < S ∨ S + 83 ≤ x) → x ≠ m → hup h7 m (.inr (2, vFs f u i v j s)) x = h x := fun x a b => hup_ne b (hf7 x a b)
            have H8 : slv (hup h7 m (.inr (2, vFs f u i v j s))) S := upm H7
            have D8 : pbIs (hup h7 m (.inr (2, vFs f u i v j s))) (S + 19) 1 pc5 B5 := hB5.off fun x a b => hup_ne (by omega) rfl
            refine c67_34 (by omega) (by omega) (fun r => absurd r (by omega)) (fun _ => ?_)
            refine c67_41 hm7 rfl H7.1 (by omega) rfl hB5.ob (by omega) (Nat.zero_le _) (Nat.zero_le _) (t_become (d := d + 22) D8 (PQ _ hf8) (show q + 5 ≤ S + 19 ∨ S + 19 + 5 ≤ q by omega) hup_eq (by omega) hL hv.2.1 hv.1 hw (fun _ => hpc) (hcap _ _ _ _ _ _ hL) (posOK_mv hL hv.2.1 hv.1).2) (kB fun h9 hf9 D9 => ?_)
            have H9 : slv h9 S := H8.dr hf9 ⟨_, _, D9⟩
            have hf9b : ∀ x, (x < S ∨ S + 83 ≤ x) → x ≠ m → h9 x = h x := fun x a b => (hf9 x (by omega)).trans (hf8 x a b)
            have m9 : h9 m = some (.inr (2, vFs f u i v j s)) := by rw [hf9 _ (by omega)]; exact hup_eq
            have hvm := vld_mv hv hL
            have hvl2 : val ((doMv P f u i v j s).1, lnP 1 (doMv P f u i v j s).1 [] (doMv P f u i v j s).2) = val (doMv P f u i v j s) := val_ln (L := (doMv P f u i v j s).1) (F := (doMv P f u i v j s).2) hvm
            have hvle := val_le (P := doMv P f u i v j s)
            refine c67_56 H9.1 (Nat.zero_le _) (Nat.zero_le _) (wd_all 9 (Nat.le_refl _) d z4 S 0 _ h9 ((doMv P f u i v j s).1, lnP 1 (doMv P f u i v j s).1 [] (doMv P f u i v j s).2) H9 D9 (vld_ln hvm) lean_ln (by show (doMv P f u i v j s).1.sum ≤ 9; omega) (by omega)) ?_
            rintro o h10 z10 ⟨rfl, rfl, sf10, H10⟩
            rw [hvl2]
            have hf10 : ∀ x, (x < S ∨ S + 83 ≤ x) → x ≠ m → h10 x = h x := fun x a b => (sf10.1 x a).trans (hf9b x a b)
            have m10 : h10 m = some (.inr (2, vFs f u i v j s)) := by rw [sf10.1 m hmS]; exact m9
            refine c67_61 (by omega) (fun r => c67_66 ?_) (fun r => c67_64 ?_)
            · rw [if_neg r] at hans7
              exact ihs (s + 1) (k + 1) h10 (nI s) (by omega) H10 hf10 m10 hans7
            · rw [if_pos (Decidable.not_not.mp r)] at hans7
              rw [← hQ, ← hans7]
              exact ⟨rfl, rfl, H10, ⟨_, _, _, _, _, _, m10⟩, hf10⟩
        have := sides (sidesP P (f, u, i, v, j)) 0 k _ xs (by omega) (upm H3) hf4 mM_eq (by
          rw [List.drop_zero, ← mvp_cons, ← e]
          exact hans)
        exact this
  refine loop (prs P cur0).length [] (prs P cur0) 0 _ (nI 0) _ _ (Nat.le_refl _) rfl (upm H) (fun x a b => hup_ne b rfl) wk_rewind ?_
  rw [mvs_prs]
end POS
