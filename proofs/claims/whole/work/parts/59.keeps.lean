/-! the reference's table of worths -/
def mdl (h : HP) (M : Nat) (al : Nat → Int32) (kn : Int32) (t : Cur) (ms kz : Int32) : Prop := mdA h M (mFs M kn t ms kz) al ∧ (∃ k, kn = nI k ∧ k ≤ 30001) ∧ ∃ pf gf ky kf sz wf, h (M + 6) = some (.inl (0, 32, .inl pf)) ∧ h (M + 7) = some (.inl (0, 32, .inl gf)) ∧ h (M + 8) = some (.inl (2, 72, .inl ky)) ∧ h (M + 3) = some (.inl (2, 2359296, .inl kf)) ∧ h (M + 4) = some (.inl (0, 32768, .inl sz)) ∧ h (M + 5) = some (.inl (2, 32768, .inl wf)) ∧ kpOK kf sz wf
def mfr (M : Nat) (h h2 : HP) : Prop := ∀ x, x < M ∨ x = M + 2 ∨ M + 9 ≤ x → h2 x = h x
theorem mfr.rf {M : Nat} {h : HP} : mfr M h h := fun _ _ => rfl
theorem mfr.tr {M : Nat} {h h2 h3 : HP} (a : mfr M h h2) (b : mfr M h2 h3) : mfr M h h3 := fun x hx => (b x hx).trans (a x hx)
theorem mfr.up {M : Nat} {h h2 : HP} (a : mfr M h h2) {k : Nat} {e : hE} (hk : M ≤ k ∧ k ≠ M + 2 ∧ k < M + 9) : mfr M h (hup h2 k e) := fun x hx => hup_ne (by omega) (a x hx)
section REF
variable {sc : ipSc} {d z M p : Nat} {h : HP} {kn ms kz : Int32} {t : Cur} {al : Nat → Int32} {P : PosT}
theorem mdl.aa {al2 : Nat → Int32} (H : mdl h M al kn t ms kz) : mdl (mA h M al2) M al2 kn t ms kz := by
  obtain ⟨h1, h2, pf, gf, ky, kf, sz, wf, a1, a2, a3, a4, a5, a6, a7⟩ := H
  exact ⟨h1.put, h2, pf, gf, ky, kf, sz, wf, hup_ne (by omega) a1, hup_ne (by omega) a2, hup_ne (by omega) a3, hup_ne (by omega) a4, hup_ne (by omega) a5, hup_ne (by omega) a6, a7⟩
theorem mdl.pp {pf2 : Nat → Int32} (H : mdl h M al kn t ms kz) : mdl (mP h M pf2) M al kn t ms kz := by
  obtain ⟨h1, h2, pf, gf, ky, kf, sz, wf, a1, a2, a3, a4, a5, a6, a7⟩ := H
  exact ⟨h1.pp, h2, pf2, gf, ky, kf, sz, wf, hup_eq, hup_ne (by omega) a2, hup_ne (by omega) a3, hup_ne (by omega) a4, hup_ne (by omega) a5, hup_ne (by omega) a6, a7⟩
theorem mdl.gg {gf2 : Nat → Int32} (H : mdl h M al kn t ms kz) : mdl (mG h M gf2) M al kn t ms kz := by
  obtain ⟨h1, h2, pf, gf, ky, kf, sz, wf, a1, a2, a3, a4, a5, a6, a7⟩ := H
  exact ⟨h1.gg, h2, pf, gf2, ky, kf, sz, wf, hup_ne (by omega) a1, hup_eq, hup_ne (by omega) a3, hup_ne (by omega) a4, hup_ne (by omega) a5, hup_ne (by omega) a6, a7⟩
theorem mdl.kk {ky2 : Nat → Int32} {n : Nat} (H : mdl h M al kn t ms kz) : mdl (mK h M kn t ms ky2 n) M al kn t ms (nI n) := by
  obtain ⟨h1, h2, pf, gf, ky, kf, sz, wf, a1, a2, a3, a4, a5, a6, a7⟩ := H
  exact ⟨mK_al h1, h2, pf, gf, ky2, kf, sz, wf, hup_ne (by omega) (hup_ne (by omega) a1), hup_ne (by omega) (hup_ne (by omega) a2), hup_ne (by omega) hup_eq, hup_ne (by omega) (hup_ne (by omega) a4), hup_ne (by omega) (hup_ne (by omega) a5), hup_ne (by omega) (hup_ne (by omega) a6), a7⟩
theorem mdl.cc {t2 : Cur} {ms2 : Int32} (H : mdl h M al kn t ms kz) : mdl (mC h M kn t2 ms2 kz) M al kn t2 ms2 kz := by
  obtain ⟨h1, h2, pf, gf, ky, kf, sz, wf, a1, a2, a3, a4, a5, a6, a7⟩ := H
  exact ⟨h1.cur, h2, pf, gf, ky, kf, sz, wf, hup_ne (by omega) a1, hup_ne (by omega) a2, hup_ne (by omega) a3, hup_ne (by omega) a4, hup_ne (by omega) a5, hup_ne (by omega) a6, a7⟩
theorem mfr.aa {h2 : HP} {al2 : Nat → Int32} (a : mfr M h h2) : mfr M h (mA h2 M al2) := a.up (by omega)
theorem mfr.pp {h2 : HP} {pf : Nat → Int32} (a : mfr M h h2) : mfr M h (mP h2 M pf) := a.up (by omega)
theorem mfr.gg {h2 : HP} {gf : Nat → Int32} (a : mfr M h h2) : mfr M h (mG h2 M gf) := a.up (by omega)
theorem mfr.kk {h2 : HP} {ky : Nat → Int32} {n : Nat} (a : mfr M h h2) : mfr M h (mK h2 M kn t ms ky n) := (a.up (by omega)).up (by omega)
theorem mfr.cc {h2 : HP} (a : mfr M h h2) : mfr M h (mC h2 M kn t ms kz) := a.up (by omega)
theorem txt_len {Q : PosT} : (txt Q).length = Q.2.length + (pW Q).length + (pC Q).length := by
  have e : ∀ F : List (List (List Nat)), ((F.map (fT Q.1)).flatten).length = F.length + F.flatten.length + F.flatten.flatten.length := by
    intro F
    induction F with
    | nil => rfl
    | cons X F ih =>
      rw [List.map_cons, List.flatten_cons, List.length_append, ih]
      have e2 : ∀ X : List (List Nat), ((X.map (wT Q.1)).flatten).length = X.length + X.flatten.length := by
        intro X
        induction X with
        | nil => rfl
        | cons x X ih =>
          rw [List.map_cons, List.flatten_cons, List.length_append, ih]
          unfold wT
          simp only [List.length_cons, List.length_map, List.flatten_cons, List.length_append]
          omega
      unfold fT
      simp only [List.length_cons, e2, List.flatten_cons, List.flatten_append, List.length_append]
      omega
  exact e Q.2
theorem txt_byte {Q : PosT} (ht : tiny Q) {v : Int32} (h : v ∈ txt Q) : vp_nar .byte v = v := by
  obtain ⟨l, h1, h2⟩ := List.mem_flatten.mp h
  obtain ⟨X, hX, rfl⟩ := List.mem_map.mp h1
  unfold fT at h2
  rcases List.mem_cons.mp h2 with rfl | h2
  · decide +kernel
  · obtain ⟨l, h3, h4⟩ := List.mem_flatten.mp h2
    obtain ⟨x, hx, rfl⟩ := List.mem_map.mp h3
    unfold wT at h4
    rcases List.mem_cons.mp h4 with rfl | h4
    · decide +kernel
    · obtain ⟨a, ha, rfl⟩ := List.mem_map.mp h4
      have := ht.lt (List.mem_flatten.mpr ⟨x, List.mem_flatten.mpr ⟨X, hX, hx⟩, ha⟩)
      unfold cdT
      have h : ∀ k : Fin 128, vp_nar .byte (nI k.val) = nI k.val := by decide +kernel
      exact h ⟨_, this⟩
def kpQ (h : HP) (M z : Nat) (al : Nat → Int32) (t : Cur) (ms : Int32) : ipQ := fun o h2 z2 => o = none ∧ z2 = z ∧ mfr M h h2 ∧ ∃ kn2 kz2, mdl h2 M al kn2 t ms kz2
set_option maxHeartbeats 1000000 in
theorem t_keeps (H : mdl h M al kn t ms kz) (HR : rowIs al p P) (hp : p + 332 ≤ 52000) (ht : tiny P) (hv : vld P) (hw : val P < 16) : ipC sc (d + 3) 146 [.ref M, .int (nI p), .int (nI (val P))] h z 0 0 (kpQ h M z al t ms) := by
  have H0 := H
  obtain ⟨h1, ⟨kk, hkk, hkl⟩, pf, gf, ky0, kf, sz, wf, a1, a2, a3, a4, a5, a6, a7⟩ := H
  have hB := HR.2.2.2.2.2
  have hl := txt_len (Q := P)
  have hT : (txt P).length < 1000 := by have := hB.2.1; have := hB.2.2.1; have := hB.2.2.2; omega
  refine ipC_mk [some (.ref M), some (.int (nI p)), some (.int (nI (val P))), none, none] rfl (Nat.le_of_ble_eq_true rfl) ?_
  refine c146_0 h1.1 (Nat.zero_le _) (Nat.zero_le _) (t_writes h1 a3 HR hp ht hv.1) ?_
  rintro o h2 z2 ⟨rfl, rfl, ky, rfl, hk⟩
  have H2 := H0.kk (ky2 := ky) (n := (txt P).length)
  have b3 : mK h M kn t ms ky (txt P).length (M + 8) = some (.inl (2, 72, .inl ky)) := mK_ky
  have b4 : mK h M kn t ms ky (txt P).length (M + 3) = some (.inl (2, 2359296, .inl kf)) := hup_ne (by omega) (hup_ne (by omega) a4)
  have b5 : mK h M kn t ms ky (txt P).length (M + 4) = some (.inl (0, 32768, .inl sz)) := hup_ne (by omega) (hup_ne (by omega) a5)
  have b6 : mK h M kn t ms ky (txt P).length (M + 5) = some (.inl (2, 32768, .inl wf)) := hup_ne (by omega) (hup_ne (by omega) a6)
  have hzz : ∀ a, a < 32768 → ∃ n, sz a = nI n ∧ n ≤ 72 := fun a ha => by obtain ⟨n, q1, q2, -⟩ := a7 a ha; exact ⟨n, q1, q2⟩
  have done : kpQ h M z2 al t ms none (mK h M kn t ms ky (txt P).length) z2 := ⟨rfl, rfl, mfr.rf.kk, kn, _, H2⟩
  refine c146_5 H2.1.1 (Nat.zero_le _) (Nat.zero_le _) (t_placeOf H2.1.1 b3 b4 b5 hzz hT) ?_
  rintro o h3 z3 ⟨rfl, rfl, rfl | ⟨a, ha, rfl, hn72, hsz⟩⟩
  · exact b146_9 (fun _ => c146_33 done) (fun r => absurd (by decide) r)
  · refine c146_9 (by omega) (fun r => absurd r (Nat.not_lt_zero _)) (fun _ => ?_)
    obtain ⟨sn, s1, s2, s3⟩ := a7 a ha
    refine c146_14 H2.1.1 rfl b5 ha (by decide) s1 (by omega) (fun _ => c146_33 done) (fun r => ?_)
    refine c146_23 (v_fs1_5 := kk) H2.1.1 (by rw [← hkk]; rfl) (by omega) (fun _ => ?_) (fun _ => c146_33 done)
    refine c146_34 (v_fs1_15 := (txt P).length) H2.1.1 rfl rfl b5 ha (by decide) rfl (by omega) rfl b6 (by omega) ha (by decide) rfl ?_
    rw [byte_id _ (by omega)]
    generalize hG : hup (hup (mK h M kn t ms ky (txt P).length) (M + 4) (.inl (0, 32768, .inl (upd sz a (nI (txt P).length))))) (M + 5) (.inl (2, 32768, .inl (upd wf a (nI (val P))))) = G
    have g0 : G M = some (.inr (9, mFs M kn t ms (nI (txt P).length))) := by rw [← hG]; exact hup_ne (by omega) (hup_ne (by omega) H2.1.1)
    have g8 : G (M + 8) = some (.inl (2, 72, .inl ky)) := by rw [← hG]; exact hup_ne (by omega) (hup_ne (by omega) b3)
    have loop : ∀ (m k : Nat) (kf2 : Nat → Int32), k + m = (txt P).length → (∀ x, x < k → kf2 (72 * a + x) = ky x) → (∀ x, (x < 72 * a ∨ 72 * a + 72 ≤ x) → kf2 x = kf x) → ip sc (ipC sc (d + 2)) 146 0 0 (kpQ h M z3 al t ms) 55 [some (.ref M), some (.int (nI p)), some (.int (nI (val P))), some (.int (nI a)), some (.int (nI k))] [] (hup G (M + 3) (.inl (2, 2359296, .inl kf2))) z3 0 0 := by
      intro m
      induction m with
      | zero =>
        intro k kf2 hkm q1 q2
        refine c146_55 (v_fs1_15 := (txt P).length) (hup_ne (by omega) g0) rfl (by omega) (by omega) (fun _ => ?_) (fun r => absurd (by omega) r)
        refine c146_89 (v_fs1_5 := kk) (hup_ne (by omega) g0) (by rw [← hkk]; rfl) rfl ⟨rfl, rfl, ?_, nI (kk + 1), nI (txt P).length, ?_⟩
        · rw [← hG]
          exact ((((mfr.rf.kk).up (by omega)).up (by omega)).up (by omega)).up (by omega)
        · refine ⟨⟨?_, rfl, ?_⟩, ⟨kk + 1, rfl, by omega⟩, pf, gf, ky, kf2, upd sz a (nI (txt P).length), upd wf a (nI (val P)), ?_, ?_, ?_, ?_, ?_, ?_, ?_⟩
          · rw [hup_eq]
            rfl
          · refine hup_ne (by omega) (hup_ne (by omega) ?_)
            rw [← hG]
            exact hup_ne (by omega) (hup_ne (by omega) H2.1.2.2)
          · refine hup_ne (by omega) (hup_ne (by omega) ?_)
            rw [← hG]
            exact hup_ne (by omega) (hup_ne (by omega) (hup_ne (by omega) (hup_ne (by omega) a1)))
          · refine hup_ne (by omega) (hup_ne (by omega) ?_)
            rw [← hG]
            exact hup_ne (by omega) (hup_ne (by omega) (hup_ne (by omega) (hup_ne (by omega) a2)))
          · exact hup_ne (by omega) (hup_ne (by omega) g8)
          · exact hup_ne (by omega) hup_eq
          · refine hup_ne (by omega) (hup_ne (by omega) ?_)
            rw [← hG]
            exact hup_ne (by omega) hup_eq
          · refine hup_ne (by omega) (hup_ne (by omega) ?_)
            rw [← hG]
            exact hup_eq
          · intro b hb
            by_cases e : b = a
            · subst e
              refine ⟨(txt P).length, pk_us, hn72, fun _ => ⟨P, hv, ht, rfl, fun x v hx => ?_, pk_us, hw⟩⟩
              have hxl := lt_some hx
              rw [q1 x (by omega)]
              exact hk x v (by omega) hx
            · obtain ⟨n, w1, w2, w3⟩ := a7 b hb
              refine ⟨n, by rw [pk_un e]; exact w1, w2, fun hn => ?_⟩
              obtain ⟨Q, y1, y2, y3, y4, y5, y6⟩ := w3 hn
              refine ⟨Q, y1, y2, y3, fun x v hx => ?_, by rw [pk_un e]; exact y5, y6⟩
              have hxl := lt_some hx
              rw [q2 _ (by omega)]
              exact y4 x v hx
      | succ m ih =>
        intro k kf2 hkm q1 q2
        refine c146_55 (v_fs1_15 := (txt P).length) (hup_ne (by omega) g0) rfl (by omega) (by omega) (fun r => absurd r (by omega)) (fun _ => ?_)
        have hkv : ky k = (txt P)[k] := hk k _ (by omega) (List.getElem?_eq_getElem (by omega))
        refine c146_64 (hup_ne (by omega) g0) rfl rfl (hup_ne (by omega) g8) (by omega) (by decide) hkv hup_eq (by omega) (by decide) rfl ?_
        rw [txt_byte ht (List.getElem_mem _), hup_hup]
        refine ih (k + 1) _ (by omega) (fun x hx => ?_) (fun x hx => ?_)
        · by_cases e : x = k
          · subst e
            rw [pk_us, hkv]
          · rw [pk_un (by omega)]
            exact q1 x (by omega)
        · rw [pk_un (by omega)]
          exact q2 x hx
    have := loop (txt P).length 0 kf (by omega) (fun x hx => absurd hx (Nat.not_lt_zero _)) (fun x _ => rfl)
    have em : hup G (M + 3) (.inl (2, 2359296, .inl kf)) = G := by
      funext x
      unfold hup
      split
      · rename_i q
        rw [q, ← hG]
        exact (hup_ne (by omega) (hup_ne (by omega) b4)).symm
      · rfl
    rw [em] at this
    exact this
end REF
