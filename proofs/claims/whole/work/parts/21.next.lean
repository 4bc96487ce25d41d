/-! the reference's next move -/
abbrev MvT : Type := Cur × Nat
def cF (P : PosT) (m : MvT) : Bool := canT P m.1
def stT (P : PosT) (t : Cur) : List MvT := if canT P t = true then (List.range' 0 (sidesP P t - 0)).map (fun k => (t, k)) else [(t, 0)]
def stR (P : PosT) (L : List Cur) : List MvT := (L.map (stT P)).flatten
def cur0 : Cur := (0, 0, 0, 0, 0)
/-- all moves that can be done, in THE ORDER -/
def mvs (P : PosT) : List MvT := (stR P (rem P cur0)).filter (cF P)
def curN (t : Cur) : Cur := (t.1, t.2.1, t.2.2.1, t.2.2.2.1, t.2.2.2.2 + 1)
/-- the walk stands at t, with that SIDE; S is what it will come by -/
def atS (P : PosT) (t : Cur) (ms : Int32) (S : List MvT) : Prop := (t = cur0 ∧ ms = -1 ∧ S = stR P (rem P t)) ∨ (isTh P t = true ∧ curB t ∧ ∃ s, ms = nI s ∧ s < sidesP P t ∧ S = (if canT P t = true then (List.range' (s + 1) (sidesP P t - (s + 1))).map (fun k => (t, k)) else []) ++ stR P (rem P (curN t)))
def wB (P : PosT) : Prop := ∀ f, fl P f ≤ 31
theorem sides_pos {P : PosT} {t : Cur} : 0 < sidesP P t := by
  unfold sidesP
  split
  · exact Nat.two_pow_pos _
  · exact Nat.one_pos
theorem sides_lt {P : PosT} {t : Cur} (h : wB P) : sidesP P t ≤ 1073741824 := by
  unfold sidesP
  split
  · exact Nat.le_trans (Nat.pow_le_pow_right (by decide) (show fl P t.1 - 1 ≤ 30 by have := h t.1; omega)) (by decide)
  · decide
theorem stT_hd {P : PosT} {t : Cur} : stT P t = (t, 0) :: (if canT P t = true then (List.range' (0 + 1) (sidesP P t - (0 + 1))).map (fun k => (t, k)) else []) := by
  unfold stT
  split
  · rw [rg_s sides_pos]; rfl
  · rfl
theorem stR_cons {P : PosT} {t : Cur} {L : List Cur} : stR P (t :: L) = stT P t ++ stR P L := rfl
section REF
variable {sc : ipSc} {d z M p q : Nat} {h : HP} {fs : List Value} {al a1 : Nat → Int32} {P : PosT} {kn kz : Int32}
set_option maxRecDepth 100000 in
theorem t_steps (H : mdA h M fs al) (HR : rowIs al p P) (hp : p + 332 ≤ 52000) (hok : posOK P) (hw : wB P) {t : Cur} {ms : Int32} {S : List MvT} (St : atS P t ms S) (Q : ipQ)
    (h0 : S = [] → ∀ t2, Q (some (.int (nI 0))) (mC h M kn t2 (nI 0) kz) z) (h1 : ∀ t2 s2 S2, S = (t2, s2) :: S2 → atS P t2 (nI s2) S2 → isTh P t2 = true → curB t2 → Q (some (.int (nI 1))) (mC h M kn t2 (nI s2) kz) z) :
    ipC sc (d + 4) 116 [.ref M, .int (nI p)] (mC h M kn t ms kz) z 0 0 Q := by
  have HC := H.cur (kn := kn) (t := t) (ms := ms) (kz := kz)
  have hb := HR.2.2.2.2.2
  have hcb : curB t := by
    rcases St with ⟨rfl, -, -⟩ | ⟨-, e, -⟩
    · exact ⟨by decide, by decide, by decide, by decide, by decide⟩
    · exact e
  -- behind the tuple: the next one
  have behind : (stR P (rem P (curN t)) = S) → t.2.2.2.2 ≤ 200 → ∀ o2 : Option Value, ip sc (ipC sc (d + 3)) 116 0 0 Q 99 [some (.ref M), some (.int (nI p)), o2] [] (mC h M kn t ms kz) z 0 0 := by
    intro hS hj o2
    obtain ⟨f, u, i, v, j⟩ := t
    refine c116_99 (v_fs1_10 := j) HC.1 rfl rfl ?_
    rw [show hup (mC h M kn (f, u, i, v, j) ms kz) M (.inr (9, (((mFs M kn (f, u, i, v, j) ms kz).set 11 (.int (nI 0))).set 10 (.int (nI (j + 1)))))) = mC h M kn (f, u, i, v, j + 1) (nI 0) kz from hup_hup]
    refine t_find H HR hp (nI 0) o2 Q (rem P (f, u, i, v, j + 1)) (fun t2 e => h0 ?_ t2) (fun f2 u2 i2 v2 j2 e1 e2 e3 => h1 (f2, u2, i2, v2, j2) 0 _ ?_ (Or.inr ⟨e1, e2, 0, rfl, sides_pos, rfl⟩) e1 e2) _ _ (Nat.le_refl _) ?_ rfl
    · rw [← hS, show curN (f, u, i, v, j) = (f, u, i, v, j + 1) from rfl, e]; rfl
    · rw [← hS, show curN (f, u, i, v, j) = (f, u, i, v, j + 1) from rfl, e3, stR_cons, stT_hd]; rfl
    · obtain ⟨c1, c2, c3, c4, c5⟩ := hcb
      exact ⟨c1, c2, c3, c4, show j + 1 ≤ 201 from Nat.succ_le_succ hj⟩
  refine ipC_mk [some (.ref M), some (.int (nI p)), none] rfl (Nat.le_of_ble_eq_true rfl) ?_
  refine c116_0 HC.1 (Nat.zero_le _) (Nat.zero_le _) (t_isThere HC HR hp hcb) (kI ?_)
  by_cases ht : isTh P t = true
  · rw [ht]
    refine c116_5 (by decide) (fun r => absurd r (by decide)) (fun _ => ?_)
    obtain ⟨f, u, i, v, j⟩ := t
    obtain ⟨t1, t2, t3, t4, t5⟩ := of_decide_eq_true ht
    simp only at t1 t2 t3 t4 t5
    obtain ⟨c1, c2, c3, c4, c5⟩ := hcb
    simp only at c1 c2 c3 c4 c5
    have hwl := rowB_wl hb f v
    have hfl := hw f
    have hsl := sides_lt (t := (f, u, i, v, j)) hw
    have hF : al (p + 36 + f) = nI (fl P f) := HR.fl (gD t1)
    -- the SIDE
    have side : ip sc (ipC sc (d + 3)) 116 0 0 Q 41 [some (.ref M), some (.int (nI p)), none] [.int (nI (sidesP P (f, u, i, v, j)))] (mC h M kn (f, u, i, v, j) ms kz) z 0 0 := by
      refine c116_41 (xv_fs1_11 := ms) HC.1 rfl (fun r => ?_) (fun r => ?_)
      · rcases St with ⟨e1, e2, e3⟩ | ⟨-, -, s, e2, e4, -⟩
        · refine c116_87 (xv_fs1_11 := ms) HC.1 rfl rfl ?_
          rw [show hup (mC h M kn (f, u, i, v, j) ms kz) M (.inr (9, ((mFs M kn (f, u, i, v, j) ms kz).set 11 (.int (ms + nI 1))))) = mC h M kn (f, u, i, v, j) (ms + nI 1) kz from hup_hup, e2, show (-1 : Int32) + nI 1 = nI 0 by decide]
          refine h1 (f, u, i, v, j) 0 _ ?_ (Or.inr ⟨ht, ⟨c1, c2, c3, c4, c5⟩, 0, rfl, sides_pos, rfl⟩) ht ⟨c1, c2, c3, c4, c5⟩
          rw [e3, rem_at t3 t5, stR_cons, stT_hd]; rfl
        · exact absurd r (by rw [e2]; exact nI_pos (by omega))
      · rcases St with ⟨e1, e2, e3⟩ | ⟨-, -, s, e2, e4, e5⟩
        · exact absurd (show ms < 0 by rw [e2]; decide) r
        · subst e2
          refine c116_49 (xv_fs1_11 := nI s) HC.1 rfl (fun r2 => ?_) (fun r2 => ?_)
          · rw [nI_add, nI_leI (by omega) (by omega)] at r2
            refine behind ?_ (by show j ≤ 200; omega) _
            rw [e5, show sidesP P (f, u, i, v, j) - (s + 1) = 0 by omega]
            split <;> rfl
          · rw [nI_add, nI_leI (by omega) (by omega)] at r2
            refine c116_59 (v_fs1_6 := f) (v_fs1_7 := u) (v_fs1_8 := i) (v_fs1_9 := v) (v_fs1_10 := j) HC.1 rfl rfl rfl rfl rfl (Nat.zero_le _) (Nat.zero_le _) (t_canT HC HR hp hok ht) (kI ?_)
            by_cases hc : canT P (f, u, i, v, j) = true
            · rw [hc]
              refine c116_84 (by decide) (fun r => absurd r (by decide)) (fun _ => ?_)
              refine c116_87 (xv_fs1_11 := nI s) HC.1 rfl rfl ?_
              rw [show hup (mC h M kn (f, u, i, v, j) (nI s) kz) M (.inr (9, ((mFs M kn (f, u, i, v, j) (nI s) kz).set 11 (.int (nI s + nI 1))))) = mC h M kn (f, u, i, v, j) (nI s + nI 1) kz from hup_hup, nI_add]
              rw [if_pos hc, rg_s (by omega)] at e5
              refine h1 (f, u, i, v, j) (s + 1) _ e5 (Or.inr ⟨ht, ⟨c1, c2, c3, c4, c5⟩, s + 1, rfl, by omega, ?_⟩) ht ⟨c1, c2, c3, c4, c5⟩
              rw [if_pos hc]
              rfl
            · have hc2 : canT P (f, u, i, v, j) = false := by
                cases e : canT P (f, u, i, v, j)
                · rfl
                · exact absurd e hc
              rw [hc2]
              refine c116_84 (by decide) (fun _ => behind ?_ (by show j ≤ 200; omega) _) (fun r => absurd rfl r)
              rw [e5, if_neg hc]
              rfl
    refine c116_8 (v_fs1_7 := u) (v_fs1_9 := v) HC.1 rfl rfl (by omega) (by omega) (fun r => c116_40 ?_) (fun r => ?_)
    · rw [show sidesP P (f, u, i, v, j) = 1 from if_neg r] at side
      exact side
    · have r := Classical.not_not.mp r
      refine c116_19 (v_fs1_6 := f) HC.1 HC.2.1 rfl HC.2.2 (by omega) (by decide) hF (by omega) ?_
      have e : sidesP P (f, u, i, v, j) = 1 * 2 ^ (fl P f - 1) := by rw [Nat.one_mul]; exact if_pos r
      rw [pk_shlN (nI (fl P f - 1) &&& 31) (fl P f - 1) (sm32 _ (by omega)) (by rw [← e]; omega), ← e]
      exact side
  · have ht2 : isTh P t = false := by
      cases e : isTh P t
      · rfl
      · exact absurd e ht
    rw [ht2]
    refine c116_5 (by decide) (fun _ => ?_) (fun r => absurd rfl r)
    rcases St with ⟨e1, e2, e3⟩ | ⟨e, -⟩
    · subst e1
      refine behind ?_ (by decide) _
      rw [e3]
      have hn : ¬ 0 < wl P 0 0 := by
        intro r
        have h3 : 0 < fl P 0 := Nat.lt_of_not_le fun q => by rw [wl_out q] at r; omega
        have h4 : 0 < P.2.length := Nat.lt_of_not_le fun q => by rw [fl_out q] at h3; omega
        exact ht (decide_eq_true ⟨h4, h3, r, h3, r⟩)
      congr 1
      unfold rem curN cur0
      simp only
      rw [if_neg hn, if_neg hn]
    · exact absurd e ht
theorem t_next (H : mdA h M fs al) (HR : rowIs al p P) (hp : p + 332 ≤ 52000) (hok : posOK P) (hw : wB P) (Q : ipQ) :
    ∀ (n : Nat) {t : Cur} {ms : Int32} {S : List MvT}, S.length ≤ n → atS P t ms S → (S.filter (cF P) = [] → ∀ t2 ms2, Q (some (.int (nI 0))) (mC h M kn t2 ms2 kz) z) → (∀ t2 s2 S2, S.filter (cF P) = (t2, s2) :: S2.filter (cF P) → atS P t2 (nI s2) S2 → isTh P t2 = true → canT P t2 = true → Q (some (.int (nI 1))) (mC h M kn t2 (nI s2) kz) z) →
    ip sc (ipC sc (d + 4)) 114 0 0 Q 0 [some (.ref M), some (.int (nI p))] [] (mC h M kn t ms kz) z 0 0 := by
  intro n
  induction n with
  | zero =>
    intro t ms S hn St h0 h1
    have hS : S = [] := List.length_eq_zero_iff.mp (by omega)
    subst hS
    refine c114_0 (H.cur).1 (Nat.zero_le _) (Nat.zero_le _) (t_steps (P := P) H HR hp hok hw St (fun o h2 z2 => o = some (.int (nI 0)) ∧ z2 = z ∧ ∃ t2, h2 = mC h M kn t2 (nI 0) kz) (fun _ t2 => ⟨rfl, rfl, t2, rfl⟩) (fun t2 s2 S2 e => by cases e)) ?_
    rintro o h2 z2 ⟨rfl, rfl, t2, rfl⟩
    exact c114_5 (sa_0 := 0) (by decide) (fun _ => c114_38 (h0 rfl t2 _)) (fun r => absurd rfl r)
  | succ n ih =>
    intro t ms S hn St h0 h1
    refine c114_0 (H.cur).1 (Nat.zero_le _) (Nat.zero_le _) (t_steps (P := P) H HR hp hok hw St (fun o h2 z2 => z2 = z ∧ ((o = some (.int (nI 0)) ∧ S = [] ∧ ∃ t2, h2 = mC h M kn t2 (nI 0) kz) ∨ (o = some (.int (nI 1)) ∧ ∃ t2 s2 S2, S = (t2, s2) :: S2 ∧ atS P t2 (nI s2) S2 ∧ isTh P t2 = true ∧ h2 = mC h M kn t2 (nI s2) kz))) (fun e t2 => ⟨rfl, Or.inl ⟨rfl, e, t2, rfl⟩⟩) (fun t2 s2 S2 e1 e2 e3 _ => ⟨rfl, Or.inr ⟨rfl, t2, s2, S2, e1, e2, e3, rfl⟩⟩)) ?_
    rintro o h2 z2 ⟨rfl, ⟨rfl, e, t2, rfl⟩ | ⟨rfl, t2, s2, S2, e1, e2, e3, rfl⟩⟩
    · subst e
      exact c114_5 (sa_0 := 0) (by decide) (fun _ => c114_38 (h0 rfl t2 _)) (fun r => absurd rfl r)
    · refine c114_5 (sa_0 := 1) (by decide) (fun r => absurd r (by decide)) (fun _ => ?_)
      obtain ⟨f, u, i, v, j⟩ := t2
      have HC := H.cur (kn := kn) (t := (f, u, i, v, j)) (ms := nI s2) (kz := kz)
      refine c114_8 (v_fs1_6 := f) (v_fs1_7 := u) (v_fs1_8 := i) (v_fs1_9 := v) (v_fs1_10 := j) HC.1 rfl rfl rfl rfl rfl (Nat.zero_le _) (Nat.zero_le _) (t_canT HC HR hp hok e3) (kI ?_)
      by_cases hc : canT P (f, u, i, v, j) = true
      · rw [hc]
        refine c114_33 (by decide) (fun r => absurd r (by decide)) (fun _ => c114_36 (h1 _ _ S2 ?_ e2 e3 hc))
        rw [e1, List.filter_cons, if_pos (show cF P ((f, u, i, v, j), s2) = true from hc)]
      · have hc2 : canT P (f, u, i, v, j) = false := by
          cases e : canT P (f, u, i, v, j)
          · rfl
          · exact absurd e hc
        rw [hc2]
        refine c114_33 (by decide) (fun _ => ?_) (fun r => absurd rfl r)
        have ef : S.filter (cF P) = S2.filter (cF P) := by rw [e1, List.filter_cons, if_neg (show ¬ cF P ((f, u, i, v, j), s2) = true from hc)]
        refine ih (by rw [e1] at hn; simp only [List.length_cons] at hn; omega) e2 (fun e => h0 (ef.trans e)) (fun t3 s3 S3 e4 => h1 t3 s3 S3 (ef.trans e4))
end REF
