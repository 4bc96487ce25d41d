/-! the reference's keys -/
def cdT (L : List Nat) (a : Nat) : Int32 := nI (4 * a + L.getD a 0)
def wT (L x : List Nat) : List Int32 := (-2) :: x.map (cdT L)
def fT (L : List Nat) (X : List (List Nat)) : List Int32 := (-1) :: (X.map (wT L)).flatten
def txt (Q : PosT) : List Int32 := (Q.2.map (fT Q.1)).flatten
/-- small enough that its corners are told by a byte -/
def tiny (Q : PosT) : Prop := (∀ a ∈ pC Q, a < 32) ∧ ∀ v ∈ Q.1, v ≤ 3
def decS (c : Int32) (st : List (List (List Int32)) × List (List Int32) × List Int32) : List (List (List Int32)) × List (List Int32) × List Int32 := if c = -1 then (st.2.1 :: st.1, [], []) else if c = -2 then (st.1, st.2.2 :: st.2.1, []) else (st.1, st.2.1, c :: st.2.2)
theorem cdT_ne {L : List Nat} {a : Nat} (h : 4 * a + L.getD a 0 < 128) : cdT L a ≠ -1 ∧ cdT L a ≠ -2 := by
  have k1 : ¬ (nI (4 * a + L.getD a 0) < nI 0) := by
    rw [nI_ltI (by omega) (by omega)]
    omega
  unfold cdT
  refine ⟨fun q => k1 ?_, fun q => k1 ?_⟩
  · rw [q]; decide
  · rw [q]; decide
theorem dec_x {L : List Nat} {st : List (List (List Int32)) × List (List Int32) × List Int32} : ∀ {x : List Nat}, (∀ a ∈ x, 4 * a + L.getD a 0 < 128) → (x.map (cdT L)).foldr decS st = (st.1, st.2.1, x.map (cdT L) ++ st.2.2)
  | [], _ => rfl
  | a :: x, h => by
    rw [List.map_cons, List.foldr_cons, dec_x fun b hb => h b (List.mem_cons_of_mem _ hb)]
    obtain ⟨h1, h2⟩ := cdT_ne (h a (List.mem_cons_self ..))
    unfold decS
    rw [if_neg h1, if_neg h2]
    rfl
theorem dec_w {L : List Nat} {st : List (List (List Int32)) × List (List Int32)} : ∀ {X : List (List Nat)}, (∀ a ∈ X.flatten, 4 * a + L.getD a 0 < 128) → ((X.map (wT L)).flatten).foldr decS (st.1, st.2, []) = (st.1, X.map (List.map (cdT L)) ++ st.2, [])
  | [], _ => rfl
  | x :: X, h => by
    rw [List.map_cons, List.flatten_cons, List.foldr_append, dec_w fun b hb => h b (by rw [List.flatten_cons]; exact List.mem_append_right _ hb)]
    unfold wT
    rw [List.foldr_cons, dec_x fun b hb => h b (by rw [List.flatten_cons]; exact List.mem_append_left _ hb)]
    unfold decS
    rw [if_neg (by decide), if_pos rfl]
    simp
theorem dec_f {L : List Nat} : ∀ {F : List (List (List Nat))}, (∀ a ∈ F.flatten.flatten, 4 * a + L.getD a 0 < 128) → ((F.map (fT L)).flatten).foldr decS ([], [], []) = (F.map (List.map (List.map (cdT L))), [], [])
  | [], _ => rfl
  | X :: F, h => by
    rw [List.map_cons, List.flatten_cons, List.foldr_append, dec_f fun b hb => h b (by rw [List.flatten_cons, List.flatten_append]; exact List.mem_append_right _ hb)]
    unfold fT
    rw [List.foldr_cons, dec_w (st := (_, [])) fun b hb => h b (by rw [List.flatten_cons, List.flatten_append]; exact List.mem_append_left _ hb)]
    unfold decS
    rw [if_pos rfl]
    simp
theorem tiny.lt {Q : PosT} (h : tiny Q) {a : Nat} (ha : a ∈ pC Q) : 4 * a + Q.1.getD a 0 < 128 := by
  have h1 := h.1 a ha
  have h2 : Q.1.getD a 0 ≤ 3 := by
    by_cases q : a < Q.1.length
    · exact h.2 _ (List.mem_of_getElem? (gD (d := 0) q))
    · rw [getD_out (by omega)]; omega
  omega
theorem map3 {α β : Type} {f : α → β} {F : List (List (List α))} {g : α → β} (h : F.map (List.map (List.map f)) = F.map (List.map (List.map g))) : ∀ a ∈ F.flatten.flatten, f a = g a := by
  intro a ha
  obtain ⟨x, hx, hax⟩ := List.mem_flatten.mp ha
  obtain ⟨X, hX, hxX⟩ := List.mem_flatten.mp hx
  exact List.map_inj_left.mp (List.map_inj_left.mp (List.map_inj_left.mp h X hX) x hxX) a hax
theorem map3_comp {α β γ : Type} {f : α → β} {g : β → γ} {F : List (List (List α))} : (F.map (List.map (List.map f))).map (List.map (List.map g)) = F.map (List.map (List.map (fun a => g (f a)))) := by
  simp [List.map_map, Function.comp_def]
theorem map3_congr {α β : Type} {f g : α → β} {F : List (List (List α))} (h : ∀ a ∈ F.flatten.flatten, f a = g a) : F.map (List.map (List.map f)) = F.map (List.map (List.map g)) := by
  refine List.map_congr_left fun X hX => List.map_congr_left fun x hx => List.map_congr_left fun a ha => h a ?_
  exact List.mem_flatten.mpr ⟨x, List.mem_flatten.mpr ⟨X, hX, hx⟩, ha⟩
theorem txt_inj {Q R : PosT} (hQ : tiny Q) (hR : tiny R) (h : txt Q = txt R) : Q.2 = R.2 ∧ ∀ a ∈ pC Q, R.1.getD a 0 = Q.1.getD a 0 := by
  have h1 := dec_f (L := Q.1) (F := Q.2) fun a ha => hQ.lt ha
  have h2 := dec_f (L := R.1) (F := R.2) fun a ha => hR.lt ha
  have h : (Q.2.map (fT Q.1)).flatten = (R.2.map (fT R.1)).flatten := h
  rw [h, h2] at h1
  have h3 : R.2.map (List.map (List.map (cdT R.1))) = Q.2.map (List.map (List.map (cdT Q.1))) := congrArg Prod.fst h1
  have h4 := congrArg (List.map (List.map (List.map (fun c : Int32 => (c.toNatClampNeg / 4, c.toNatClampNeg % 4))))) h3
  rw [map3_comp, map3_comp] at h4
  have cl : ∀ {P : PosT}, tiny P → ∀ a ∈ pC P, ((cdT P.1 a).toNatClampNeg / 4, (cdT P.1 a).toNatClampNeg % 4) = (a, P.1.getD a 0) := fun {P} hP a ha => by
    have k := hP.lt ha
    have k2 : P.1.getD a 0 ≤ 3 := by
      by_cases q : a < P.1.length
      · exact hP.2 _ (List.mem_of_getElem? (gD (d := 0) q))
      · rw [getD_out (by omega)]; omega
    unfold cdT
    rw [nI_clamp (by omega)]
    congr 1
    · omega
    · omega
  rw [map3_congr (cl hR), map3_congr (cl hQ)] at h4
  have h5 := congrArg (List.map (List.map (List.map (fun c : Nat × Nat => c.1)))) h4
  rw [map3_comp, map3_comp] at h5
  have h6 : R.2 = Q.2 := by simpa using h5
  refine ⟨h6.symm, fun a ha => ?_⟩
  rw [h6] at h4
  exact congrArg Prod.snd (map3 h4 a ha)
theorem txt_val {Q R : PosT} (hQ : tiny Q) (hR : tiny R) (vQ : vld Q) (vR : vld R) (h : txt Q = txt R) : val Q = val R := by
  obtain ⟨h1, h2⟩ := txt_inj hQ hR h
  exact val_lives vQ vR h1.symm h2
theorem byte_id : ∀ n, n < 128 → vp_nar .byte ((nI n).toInt8.toInt32) = nI n := by
  intro n hn
  have h : ∀ k : Fin 128, vp_nar .byte ((nI k.val).toInt8.toInt32) = nI k.val := by decide +kernel
  exact h ⟨n, hn⟩
theorem byte_255 : vp_nar .byte ((nI 255).toInt8.toInt32) = -1 := by decide +kernel
theorem byte_254 : vp_nar .byte ((nI 254).toInt8.toInt32) = -2 := by decide +kernel
/-- the first of the key's bytes -/
def kyIs (ky : Nat → Int32) (T : List Int32) : Prop := ∀ k v, k < 72 → T[k]? = some v → ky k = v
section REF
variable {sc : ipSc} {d z M p : Nat} {h : HP} {kn ms kz : Int32} {t : Cur} {al : Nat → Int32} {P : PosT}
def mK (h : HP) (M : Nat) (kn : Int32) (t : Cur) (ms : Int32) (ky : Nat → Int32) (n : Nat) : HP := mC (hup h (M + 8) (.inl (2, 72, .inl ky))) M kn t ms (nI n)
theorem mK_al {fs : List Value} {ky : Nat → Int32} {n : Nat} (H : mdA h M fs al) : mdA (mK h M kn t ms ky n) M (mFs M kn t ms (nI n)) al := ⟨hup_eq, rfl, hup_ne (by omega) (hup_ne (by omega) H.2.2)⟩
theorem mK_ky {ky : Nat → Int32} {n : Nat} : mK h M kn t ms ky n (M + 8) = some (.inl (2, 72, .inl ky)) := hup_ne (by omega) hup_eq
theorem mK_n {ky : Nat → Int32} {n n2 : Nat} : hup (mK h M kn t ms ky n) M (.inr (9, mFs M kn t ms (nI n2))) = mK h M kn t ms ky n2 := hup_hup
theorem mK_k {ky ky2 : Nat → Int32} {n : Nat} : hup (mK h M kn t ms ky n) (M + 8) (.inl (2, 72, .inl ky2)) = mK h M kn t ms ky2 n := by
  unfold mK mC
  rw [hup_comm (by omega), hup_hup]
theorem t_kput {ky : Nat → Int32} {T : List Int32} (hk : kyIs ky T) (hT : T.length < 1000) {a : Nat} {v : Int32} (hv : vp_nar .byte ((nI a).toInt8.toInt32) = v) : ipC sc (d + 1) 141 [.ref M, .int (nI a)] (mK h M kn t ms ky T.length) z 0 0 (fun o h2 z2 => o = none ∧ z2 = z ∧ ∃ ky2, h2 = mK h M kn t ms ky2 (T ++ [v]).length ∧ kyIs ky2 (T ++ [v])) := by
  have el : (T ++ [v]).length = T.length + 1 := by simp
  refine ipC_mk [some (.ref M), some (.int (nI a))] rfl (Nat.le_of_ble_eq_true rfl) ?_
  refine c141_0 (v_fs1_15 := T.length) hup_eq rfl (by omega) (fun r => ?_) (fun r => ?_)
  · refine c141_20 (v_fs1_15 := T.length) hup_eq rfl rfl ⟨rfl, rfl, ky, ?_, fun k w hk2 e => ?_⟩
    · rw [el]
      exact mK_n
    · rw [List.getElem?_append_left (by omega)] at e
      exact hk k w hk2 e
  · refine c141_9 (v_fs1_15 := T.length) hup_eq rfl rfl mK_ky (by omega) (by decide) rfl ?_
    rw [mK_k]
    refine c141_20 (v_fs1_15 := T.length) hup_eq rfl rfl ⟨rfl, rfl, upd ky T.length (vp_nar .byte ((nI a).toInt8.toInt32)), ?_, fun k w hk2 e => ?_⟩
    · rw [el]
      exact mK_n
    · by_cases q : k = T.length
      · subst q
        rw [List.getElem?_append_right (Nat.le_refl _), Nat.sub_self] at e
        rw [pk_us, hv]
        exact Option.some.inj e
      · rw [pk_un q]
        have hl := lt_some e
        rw [el] at hl
        rw [List.getElem?_append_left (by omega)] at e
        exact hk k w hk2 e
end REF
