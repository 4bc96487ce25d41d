/-! the reference's worthOf -/
theorem sel_sub {g : Nat → Nat} {w : Nat} {F : List (List (List Nat))} : ∃ T, F.Perm (sel g w F F.length ++ T) := by
  obtain ⟨T, hT⟩ := selB_sub (g := g) (w := w + 1) (F := F) F.length (Nat.le_refl _)
  rw [List.take_length] at hT
  refine ⟨selB g w F F.length ++ T, hT.trans (((selB_s F.length).append_right T).trans ?_)⟩
  rw [← List.append_assoc]
  exact List.perm_append_comm.append_right T
theorem cn_sum {L D : List Nat} {F : List (List (List Nat))} (h1 : D.Nodup) (h2 : ∀ s ∈ D, s < L.length) : (cnP L D F).1.sum ≤ L.sum := sum_dist h1 h2
theorem ren_ne {σ : Nat → Nat} {F : List (List (List Nat))} (h : ∀ X ∈ F, X ≠ []) : ∀ X ∈ ren σ F, X ≠ [] := by
  intro X hX
  obtain ⟨Y, hY, rfl⟩ := List.mem_map.mp hX
  exact fun q => h Y hY (List.map_eq_nil_iff.mp q)
section REF
variable {sc : ipSc} {M p q : Nat} {al : Nat → Int32} {P : PosT}
theorem rd_slim {a pf : Nat → Int32} {D : List Nat} (hv : vld P) (S : rdS al p q P a pf D (rdP P.1 P.2)) : vld (cnP P.1 D (rdP P.1 P.2)) ∧ slim (cnP P.1 D (rdP P.1 P.2)) ∧ (cnP P.1 D (rdP P.1 P.2)).1.sum ≤ P.1.sum ∧ val (cnP P.1 D (rdP P.1 P.2)) = val P := by
  obtain ⟨-, -, k2, k3, k4⟩ := S
  refine ⟨vld_cn (vld_rd hv) (fun a ha => (k4 a).mp ha) k3, ⟨fun v hx => ?_, ren_ne fun X hX => ?_⟩, cn_sum k2 k3, ?_⟩
  · obtain ⟨s, hs, rfl⟩ := List.mem_map.mp hx
    have := (k4 s).mpr hs
    rw [rdP_w, rdW_c] at this
    exact of_decide_eq_true (List.mem_filter.mp this).2
  · have := (List.mem_filter.mp hX).2
    intro q
    rw [q] at this
    cases this
  · rw [val_cn (vld_rd hv) (fun a ha => (k4 a).mp ha) k3, val_rd hv]
theorem tk_slim {a pf : Nat → Int32} {D : List Nat} {g : Nat → Nat} {w : Nat} (hv : vld P) (hs : slim P) (S : rdS al p q P a pf D (sel g w P.2 P.2.length)) : vld (cnP P.1 D (sel g w P.2 P.2.length)) ∧ slim (cnP P.1 D (sel g w P.2 P.2.length)) ∧ (cnP P.1 D (sel g w P.2 P.2.length)).1.sum ≤ P.1.sum ∧ val (cnP P.1 D (sel g w P.2 P.2.length)) = val (P.1, sel g w P.2 P.2.length) := by
  obtain ⟨-, -, k2, k3, k4⟩ := S
  have hv2 : vld (P.1, sel g w P.2 P.2.length) := vld_sub hv rfl sel_sub
  refine ⟨vld_cn hv2 (fun a ha => (k4 a).mp ha) k3, ⟨fun v hx => ?_, ren_ne fun X hX => ?_⟩, cn_sum k2 k3, val_cn hv2 (fun a ha => (k4 a).mp ha) k3⟩
  · obtain ⟨s, hs2, rfl⟩ := List.mem_map.mp hx
    exact hs.1 _ (List.mem_of_getElem? (gD (d := 0) (k3 s hs2)))
  · obtain ⟨f, h1, -, rfl⟩ := sel_mem hX
    exact hs.2 _ (List.mem_of_getElem? (gD (d := []) h1))
theorem row_le {l : Nat} (h : l ≤ 32) : 40900 + 332 * l + 332 ≤ 52000 := by
  have := Nat.mul_le_mul_left 332 h
  omega
theorem row_far {l : Nat} (h : l + 1 ≤ 32) : far (40900 + 332 * l) (40900 + 332 * (l + 1)) := ⟨Or.inl (by rw [Nat.mul_add_one, ← Nat.add_assoc]; exact Nat.le_refl _), row_le (by omega), row_le h⟩
set_option maxHeartbeats 1000000 in
theorem wo_of {n : Nat} (hn9 : n ≤ 9) (h1 : W1 sc n) : WO sc n := by
  intro d z M l p h al kn t ms kz P H HR hv hn hp hl
  have hl1 : l + 1 ≤ 32 := by omega
  have hq := row_le (show l ≤ 32 by omega)
  have hfar : far p (40900 + 332 * l) := ⟨Or.inl hp, Nat.le_trans hp (Nat.le_trans (Nat.le_add_right _ _) hq), hq⟩
  refine ipC_mk [some (.ref M), some (.int (nI p)), some (.int (nI l)), none, none, none] rfl (Nat.le_of_ble_eq_true rfl) ?_
  refine c144_0 (Nat.zero_le _) (Nat.zero_le _) t_workRow (kI ?_)
  obtain ⟨pf, gf, ky0, kf, sz, wf, a1, a2, a3, a4, a5, a6, a7⟩ := H.2.2
  refine c144_4 H.1.1 (Nat.zero_le _) (Nat.zero_le _) (t_reduces (d := d + 2 * n + 5) H.1 a1 HR hfar hv.1) ?_
  rintro o h2 z2 ⟨rfl, rfl, al2, pf2, D, rfl, S2⟩
  obtain ⟨rv, rs, rsum, rval⟩ := rd_slim hv S2
  have HR2 := S2.1.2.1
  have hoff := S2.1.2.2
  generalize hR : cnP P.1 D (rdP P.1 P.2) = R at rv rs rsum rval HR2
  have H2 := (H.pp (pf2 := pf2)).aa (al2 := al2)
  have hf2 : mfr M h (mA (mP h M pf2) M al2) := mfr.rf.pp.aa
  have hb := slim_b rv rs (show R.1.sum ≤ n by omega)
  obtain ⟨hx, -⟩ := gA_ok (F := R.2) R.1.length
  have hx : fix R.2.length (grp R) := hx
  have halow : ∀ x, x < 40900 + 332 * l → al2 x = al x := fun x hx => hoff x (Or.inl hx)
  have loop : ∀ (m w : Nat) (h3 : HP) (al3 : Nat → Int32) (kn3 : Int32) (t3 : Cur) (ms3 kz3 : Int32) (o1 : Option Value), w + m = R.2.length → mdl h3 M al3 kn3 t3 ms3 kz3 → mfr M h h3 → (∀ x, x < 40900 + 332 * (l + 1) → al3 x = al2 x) → ip sc (ipC sc (d + 2 * n + 7)) 144 0 0 (woQ h M z2 al l (val P)) 17 [some (.ref M), o1, some (.int (nI l)), some (.int (nI (40900 + 332 * l))), some (.int (nI (xsG R (grp R) w))), some (.int (nI w))] [] h3 z2 0 0 := by
    intro m
    induction m with
    | zero =>
      intro w h3 al3 kn3 t3 ms3 kz3 o1 hw H3 hf3 ha3
      have HR3 : rowIs al3 (40900 + 332 * l) R := HR2.off fun x _ h2 => ha3 x (row_lt h2)
      refine c144_17 H3.1.1 rfl H3.1.2.2 (by omega) (by decide) (v9 := R.2.length) HR3.1.2.1 (by omega) (by omega) (fun _ => c144_81 ?_) (fun r => absurd (by omega) r)
      rw [show w = R.2.length by omega, xs_all rv (by omega), rval]
      refine ⟨rfl, rfl, hf3, al3, kn3, t3, ms3, kz3, H3, fun x hx => ?_⟩
      rw [ha3 x (Nat.lt_of_lt_of_le hx (Nat.add_le_add_left (Nat.mul_le_mul_left _ (Nat.le_succ _)) _)), halow x hx]
    | succ m ih =>
      intro w h3 al3 kn3 t3 ms3 kz3 o1 hw H3 hf3 ha3
      have HR3 : rowIs al3 (40900 + 332 * l) R := HR2.off fun x _ h2 => ha3 x (row_lt h2)
      obtain ⟨pf3, gf3, ky3, kf3, sz3, wf3, b1, b2, b3, b4, b5, b6, b7⟩ := H3.2.2
      refine c144_17 H3.1.1 rfl H3.1.2.2 (by omega) (by decide) (v9 := R.2.length) HR3.1.2.1 (by omega) (by omega) (fun r => absurd r (by omega)) (fun _ => ?_)
      refine c144_30 H3.1.1 (Nat.zero_le _) (Nat.zero_le _) (t_groups (d := d + 2 * n + 5) H3.1 HR3 hq rv.1 b2) ?_
      rintro o h4 z4 ⟨rfl, rfl, gf4, rfl, hl4⟩
      have H4 := H3.gg (gf2 := gf4)
      have hgw := hx.lt (show w < R.2.length by omega)
      refine c144_35 H4.1.1 rfl hup_eq (by omega) (by decide) (hl4 w (by omega)) (by omega) (by omega) (fun e => ?_) (fun e => ?_)
      · refine c144_50 (Nat.zero_le _) (Nat.zero_le _) t_workRow (kI ?_)
        refine c144_58 H4.1.1 (Nat.zero_le _) (Nat.zero_le _) (t_takes (d := d + 2 * n + 5) H4.1 (hup_ne (by omega) b1) hup_eq hl4 hx HR3 (row_far hl1) rv.1 (by omega)) ?_
        rintro o h5 z5 ⟨rfl, rfl, al5, pf5, D5, rfl, S5⟩
        obtain ⟨sv, ss, ssum, sval⟩ := tk_slim rv rs S5
        have H5 := (H4.pp (pf2 := pf5)).aa (al2 := al5)
        refine c144_63 H5.1.1 (Nat.zero_le _) (Nat.zero_le _) (h1 d z5 M (l + 1) _ al5 _ _ _ _ _ H5 S5.1.2.1 sv ss (by omega) hn9 (by omega)) ?_
        rintro o h6 z6 ⟨rfl, rfl, hf6, al6, kn6, t6, ms6, kz6, H6, ha6⟩
        refine c144_72 ?_
        rw [nI_xor, sval]
        have ex : xsG R (grp R) w ^^^ val (R.1, sel (grp R) w R.2 R.2.length) = xsG R (grp R) (w + 1) := by
          show _ = if grp R w = w then _ else _
          rw [if_pos e]
        rw [ex]
        refine c144_75 (ih (w + 1) h6 al6 kn6 t6 ms6 kz6 o1 (by omega) H6 (((hf3.gg).pp.aa).tr hf6) fun x hx => ?_)
        rw [ha6 x (row_lt2 hx), S5.1.2.2 x (Or.inl hx), ha3 x hx]
      · have ex : xsG R (grp R) (w + 1) = xsG R (grp R) w := by
          show (if grp R w = w then _ else _) = _
          rw [if_neg e]
        rw [← ex]
        exact c144_47 (c144_75 (ih (w + 1) _ al3 kn3 t3 ms3 kz3 o1 (by omega) H4 hf3.gg ha3))
  exact c144_11 (loop R.2.length 0 _ al2 kn t ms kz _ (by omega) H2 hf2 fun x _ => rfl)
theorem wo_all : ∀ n, n ≤ 9 → WO sc n
  | 0, h => wo_of h (w1_of fun m q => by omega)
  | n + 1, h => wo_of h (w1_of fun m q => by
      have : m = n := by omega
      subst this
      exact wo_all m (by omega))
end REF
