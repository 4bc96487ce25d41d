/-! the reference's game: its rows, its moves -/
theorem rowL_mv {al al2 : Nat → Int32} {p q : Nat} {l : List Nat} (h : rowL al p l) (he : ∀ i, i < l.length → al2 (q + i) = al (p + i)) : rowL al2 q l := fun i v hi => (he i (lt_some hi)).trans (h i v hi)
theorem rowIs.mv {al al2 : Nat → Int32} {p q : Nat} {P : PosT} (h : rowIs al p P) (he : ∀ x, x < 332 → al2 (q + x) = al (p + x)) : rowIs al2 q P := by
  obtain ⟨⟨h1, h2, h3, h4⟩, h5, h6, h7, h8, hB⟩ := h
  have b1 := hB.1
  have b2 := hB.2.1
  have b3 := hB.2.2.1
  have b4 := hB.2.2.2
  refine ⟨⟨(he 0 (by omega)).trans h1, (he 1 (by omega)).trans h2, (he 2 (by omega)).trans h3, (he 3 (by omega)).trans h4⟩, rowL_mv h5 fun i hi => ?_, rowL_mv h6 fun i hi => ?_, rowL_mv h7 fun i hi => ?_, rowL_mv h8 fun i hi => ?_, hB⟩
  · rw [Nat.add_assoc, Nat.add_assoc]; exact he _ (by omega)
  · rw [List.length_map] at hi; rw [Nat.add_assoc, Nat.add_assoc]; exact he _ (by omega)
  · rw [List.length_map] at hi; rw [Nat.add_assoc, Nat.add_assoc]; exact he _ (by omega)
  · rw [Nat.add_assoc, Nat.add_assoc]; exact he _ (by omega)
def rgm (al : Nat → Int32) (off n t : Nat) (mv : Nat → MvT) : Prop := al off = nI t ∧ (∀ k, k ≤ t → rowIs al (off + (4 + 332 * k)) (gP n mv k)) ∧ ∀ k, k < t → rowL al (off + (8020 + 6 * k)) (mvL (mv k))
section RG
variable {al al2 : Nat → Int32} {off n t : Nat} {mv : Nat → MvT}
theorem rgm.sh (h : rgm al off n t mv) (ht : t ≤ 23) {q : Nat} (he : ∀ x, x < 8180 → al2 (q + x) = al (off + x)) : rgm al2 q n t mv := by
  refine ⟨(he 0 (by omega)).trans h.1, fun k hk => (h.2.1 k hk).mv fun x hx => ?_, fun k hk => rowL_mv (h.2.2 k hk) fun x hx => ?_⟩
  · rw [Nat.add_assoc q, Nat.add_assoc off]; exact he (4 + 332 * k + x) (by omega)
  · have hx : x < 6 := hx
    rw [Nat.add_assoc q, Nat.add_assoc off]; exact he (8020 + 6 * k + x) (by omega)
theorem rgm.of (h : rgm al off n t mv) (ht : t ≤ 23) (he : ∀ x, off ≤ x → x < off + 8180 → al2 x = al x) : rgm al2 off n t mv := h.sh ht fun x hx => he _ (by omega) (by omega)
theorem rgm.row (h : rgm al 0 n t mv) {k : Nat} (hk : k ≤ t) : rowIs al (4 + 332 * k) (gP n mv k) := by
  have := h.2.1 k hk
  rw [Nat.zero_add] at this
  exact this
theorem rgm.le (h : rgm al off n t mv) {t2 : Nat} (ht : t2 ≤ t) (he : ∀ x, x ≠ off → al2 x = al x) (h0 : al2 off = nI t2) : rgm al2 off n t2 mv := ⟨h0, fun k hk => (h.2.1 k (by omega)).mv fun x hx => he _ (by omega), fun k hk => rowL_mv (h.2.2 k (by omega)) fun x hx => he _ (by omega)⟩
end RG
def up6 (al : Nat → Int32) (p : Nat) (m : MvT) : Nat → Int32 := upd (upd (upd (upd (upd (upd al p (nI m.1.1)) (p + 1) (nI m.1.2.1)) (p + 2) (nI m.1.2.2.1)) (p + 3) (nI m.1.2.2.2.1)) (p + 4) (nI m.1.2.2.2.2)) (p + 5) (nI m.2)
theorem up6_out {al : Nat → Int32} {p x : Nat} {m : MvT} (h : x < p ∨ p + 6 ≤ x) : up6 al p m x = al x := by
  unfold up6
  rw [pk_un (by omega), pk_un (by omega), pk_un (by omega), pk_un (by omega), pk_un (by omega), pk_un (by omega)]
theorem up6_in {al : Nat → Int32} {p : Nat} {m : MvT} : rowL (up6 al p m) p (mvL m) := fun i v hi => by
  have hl : i < 6 := lt_some hi
  unfold up6
  match i, hl with
  | 0, _ => cases hi; rw [pk_un (by omega), pk_un (by omega), pk_un (by omega), pk_un (by omega), pk_un (by omega)]; exact pk_us
  | 1, _ => cases hi; rw [pk_un (by omega), pk_un (by omega), pk_un (by omega), pk_un (by omega)]; exact pk_us
  | 2, _ => cases hi; rw [pk_un (by omega), pk_un (by omega), pk_un (by omega)]; exact pk_us
  | 3, _ => cases hi; rw [pk_un (by omega), pk_un (by omega)]; exact pk_us
  | 4, _ => cases hi; rw [pk_un (by omega)]; exact pk_us
  | 5, _ => cases hi; exact pk_us
section REF
variable {sc : ipSc} {d z M n t : Nat} {h : HP} {al : Nat → Int32} {mv : Nat → MvT} {kn ms kz : Int32} {cu : Cur}
theorem t_does {fs : List Value} (H : mdA h M fs al) (R : rgm al 0 n t mv) (ok : gOK n t mv) {m : MvT} (hl : lgl (gP n mv t) m) : ipC sc (d + 6) 128 [.ref M, .int (nI m.1.1), .int (nI m.1.2.1), .int (nI m.1.2.2.1), .int (nI m.1.2.2.2.1), .int (nI m.1.2.2.2.2), .int (nI m.2)] h z 0 0 (qWI (nI (gP n mv t).1.length) h M z (fun a2 => rgm a2 0 n (t + 1) (pu mv t m) ∧ ∀ x, 8180 ≤ x → a2 x = al x)) := by
  have hr := ok.room hl
  have iv := ok.iv (Nat.le_refl t)
  have iv2 := inv_mv iv hl
  refine ipC_mk [some (.ref M), some (.int (nI m.1.1)), some (.int (nI m.1.2.1)), some (.int (nI m.1.2.2.1)), some (.int (nI m.1.2.2.2.1)), some (.int (nI m.1.2.2.2.2)), some (.int (nI m.2)), none, none, none, none] rfl (Nat.le_of_ble_eq_true rfl) ?_
  refine c128_0 H.1 (Nat.zero_le _) (Nat.zero_le _) (t_now (d := d + 3) H R.1) (kI ?_)
  refine c128_4 H.1 H.2.1 H.2.2 (by omega) (by decide) R.1 (Nat.zero_le _) (Nat.zero_le _) (ipC_mk (d := d + 4) [some (.int (nI (t + 1)))] rfl (Nat.le_of_ble_eq_true rfl) (c93_0 ⟨rfl, rfl, rfl⟩)) (kI ?_)
  have hfar : far (4 + 332 * t) (4 + 332 * (t + 1)) := ⟨Or.inl (by omega), by omega, by omega⟩
  refine c128_24 H.1 (Nat.zero_le _) (Nat.zero_le _) (t_joinsL H (R.row (Nat.le_refl t)) hfar hl iv.2.2.2.1 iv.wB iv2.cap.2.1) (kWI fun a5 h5 => ?_)
  have H5 := H.put (al2 := a5)
  obtain ⟨r5, o5⟩ := h5
  have e0 : up6 a5 (8020 + 6 * t) m 0 = nI t := by
    rw [up6_out (by omega), o5 0 (by omega)]
    exact R.1
  refine c128_36 H5.1 H5.2.1 H5.2.2 (by omega) (by decide) rfl (by omega) (by omega) rfl (by omega) rfl (by omega) rfl (by omega) rfl (by omega) (show _ = up6 a5 (8020 + 6 * t) m from rfl) (by omega) e0 rfl ?_
  refine ⟨rfl, rfl, _, mA_mA, ?_, fun x hx => ?_⟩
  · have eo : ∀ x, x ≠ 0 → (x < 8020 + 6 * t ∨ 8020 + 6 * t + 6 ≤ x) → upd (up6 a5 (8020 + 6 * t) m) 0 (nI (t + 1)) x = a5 x := fun x h1 h2 => by rw [pk_un h1, up6_out h2]
    refine ⟨pk_us, fun k hk => ?_, fun k hk => ?_⟩
    · rw [Nat.zero_add]
      by_cases e : k = t + 1
      · subst e
        rw [gP_new]
        exact r5.mv fun x hx => eo _ (by omega) (by omega)
      · rw [gP_pu (by omega)]
        refine (R.row (show k ≤ t by omega)).mv fun x hx => ?_
        rw [eo _ (by omega) (by omega), o5 _ (by omega)]
    · rw [Nat.zero_add]
      by_cases e : k = t
      · subst e
        rw [pu_eq]
        exact rowL_mv up6_in fun x hx => pk_un (by omega)
      · rw [pu_ne e]
        have := R.2.2 k (by omega)
        rw [Nat.zero_add] at this
        refine rowL_mv this fun x hx => ?_
        have hx : x < 6 := hx
        rw [eo _ (by omega) (by omega), o5 _ (by omega)]
  · rw [pk_un (by omega), up6_out (by omega), o5 _ (by omega)]
end REF
