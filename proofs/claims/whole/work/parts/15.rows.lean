/-! writing a row of the reference's 'all' -/
theorem rB_iff {lv : List Nat} {F : List (List (List Nat))} {X : List (List Nat)} : rowB (lv, F ++ [X]) ↔ (lv.length ≤ 32 ∧ F.length + 1 ≤ 32 ∧ F.flatten.length + X.length ≤ 64 ∧ F.flatten.flatten.length + X.flatten.length ≤ 200) := by
  simp [rowB, pW, pC]
theorem pW_app {lv : List Nat} {F : List (List (List Nat))} {X : List (List Nat)} : pW (lv, F ++ [X]) = F.flatten ++ X := by simp [pW]
theorem pC_app {lv : List Nat} {F : List (List (List Nat))} {X : List (List Nat)} : pC (lv, F ++ [X]) = F.flatten.flatten ++ X.flatten := by simp [pC, pW]
section REF
variable {sc : ipSc} {d z M p q : Nat} {h : HP} {fs : List Value} {al : Nat → Int32} {P : PosT} {lv : List Nat} {F : List (List (List Nat))} {X : List (List Nat)} {C : List Nat}
theorem t_clear (H : mdA h M fs al) (hq : q + 332 ≤ 52000) : ipC sc (d + 1) 107 [.ref M, .int (nI q)] h z 0 0 (qW h M z (fun a2 => rowIs a2 q ([], []) ∧ eqOff q al a2)) := by
  refine ipC_mk [some (.ref M), some (.int (nI q))] rfl (Nat.le_of_ble_eq_true rfl) ?_
  refine c107_0 H.1 H.2.1 H.2.2 (by omega) (by decide) rfl (by omega) (by omega) rfl (by omega) rfl (by omega) rfl ⟨rfl, rfl, _, rfl, ?_, ?_⟩
  · refine ⟨⟨?_, ?_, ?_, ?_⟩, rowL_nil, rowL_nil, rowL_nil, rowL_nil, by decide, by decide, by decide, by decide⟩
    · rw [pk_un (by omega), pk_un (by omega), pk_un (by omega)]; exact pk_us
    · rw [pk_un (by omega), pk_un (by omega)]; exact pk_us
    · rw [pk_un (by omega)]; exact pk_us
    · exact pk_us
  · exact ((((eqOff.rf.up (by omega)).up (by omega)).up (by omega)).up (by omega))
theorem t_addField (H : mdA h M fs al) (hq : q + 332 ≤ 52000) (HR : rowIs al q (lv, F)) (hb : F.length + 1 ≤ 32) : ipC sc (d + 1) 100 [.ref M, .int (nI q)] h z 0 0 (qW h M z (fun a2 => rowIs a2 q (lv, F ++ [[]]) ∧ eqOff q al a2)) := by
  refine ipC_mk [some (.ref M), some (.int (nI q))] rfl (Nat.le_of_ble_eq_true rfl) ?_
  obtain ⟨⟨h1, h2, h3, h4⟩, h5, h6, h7, h8, b1, b2, b3, b4⟩ := HR
  have e1 : pW (lv, F ++ [[]]) = pW (lv, F) := by simp [pW]
  have e2 : pC (lv, F ++ [[]]) = pC (lv, F) := by simp [pC, pW]
  refine c100_0 H.1 H.2.1 H.2.2 (by omega) (by decide) h2 (by show q + 36 + F.length < 52000; omega) rfl (by omega) (v15 := F.length) ?_ rfl ⟨rfl, rfl, _, rfl, ?_, ?_⟩
  · rw [pk_un (by show q + 1 ≠ q + 36 + F.length; omega)]; exact h2
  · have hm : (F ++ [[]]).map List.length = F.map List.length ++ [0] := by simp
    refine ⟨⟨?_, ?_, ?_, ?_⟩, ?_, ?_, ?_, ?_, b1, by simpa using hb, by rw [e1]; exact b3, by rw [e2]; exact b4⟩
    · rw [pk_un (by omega), pk_un (by show q ≠ q + 36 + F.length; omega)]; exact h1
    · rw [pk_us]; simp
    · rw [pk_un (by omega), pk_un (by show q + 2 ≠ q + 36 + F.length; omega), e1]; exact h3
    · rw [pk_un (by omega), pk_un (by show q + 3 ≠ q + 36 + F.length; omega), e2]; exact h4
    · exact rowL_out (rowL_out h5 (by show q + 36 + F.length < q + 4 ∨ q + 4 + lv.length ≤ q + 36 + F.length; simp only at b1; omega)) (by omega)
    · show rowL _ _ ((F ++ [[]]).map List.length)
      rw [hm]
      exact rowL_out (rowL_app h6 (by simp)) (by omega)
    · rw [e1]
      exact rowL_out (rowL_out h7 (by left; show q + 36 + F.length < q + 68; omega)) (by omega)
    · rw [e2]
      exact rowL_out (rowL_out h8 (by left; show q + 36 + F.length < q + 132; omega)) (by omega)
  · exact (eqOff.rf.up (by show q ≤ q + 36 + F.length ∧ q + 36 + F.length < q + 332; omega)).up (by omega)
theorem t_addWall (H : mdA h M fs al) (hq : q + 332 ≤ 52000) (HR : rowIs al q (lv, F ++ [X])) (hb : F.flatten.length + X.length + 1 ≤ 64) : ipC sc (d + 1) 99 [.ref M, .int (nI q)] h z 0 0 (qW h M z (fun a2 => rowIs a2 q (lv, F ++ [X ++ [[]]]) ∧ eqOff q al a2)) := by
  refine ipC_mk [some (.ref M), some (.int (nI q))] rfl (Nat.le_of_ble_eq_true rfl) ?_
  have hB := rB_iff.mp HR.2.2.2.2.2
  obtain ⟨⟨h1, h2, h3, h4⟩, h5, h6, h7, h8, -⟩ := HR
  have w0 : (pW (lv, F ++ [X])).length = F.flatten.length + X.length := by rw [pW_app, List.length_append]
  have l0 : (F ++ [X]).length = F.length + 1 := by simp
  have e1 : pW (lv, F ++ [X ++ [[]]]) = pW (lv, F ++ [X]) ++ [[]] := by rw [pW_app, pW_app, List.append_assoc]
  have e2 : pC (lv, F ++ [X ++ [[]]]) = pC (lv, F ++ [X]) := by rw [pC_app, pC_app]; simp
  have c0 : (pC (lv, F ++ [X])).length = F.flatten.flatten.length + X.flatten.length := by rw [pC_app, List.length_append]
  rw [w0] at h3
  have h2 : al (q + 1) = nI (F.length + 1) := by rw [← l0]; exact h2
  have hm0 : (F ++ [X]).map List.length = F.map List.length ++ [X.length] := by simp
  have h6 : rowL al (q + 36) (F.map List.length ++ [X.length]) := by rw [← hm0]; exact h6
  have hx : al (q + 36 + F.length) = nI X.length := h6 F.length X.length (by simp)
  have ei : q + 36 + (F.length + 1) - 1 = q + 36 + F.length := by omega
  refine c99_0 H.1 H.2.1 H.2.2 (by omega) (by decide) h3 (by omega) rfl (by omega) (v15 := F.flatten.length + X.length) (by rw [pk_un (by omega)]; exact h3) rfl (by omega) (v20 := F.length + 1) (by rw [pk_un (by omega), pk_un (by omega)]; exact h2) (by omega) (by omega) (v24 := X.length) (by rw [ei, pk_un (by omega), pk_un (by omega)]; exact hx) (congrArg (fun k => upd _ k _) ei) ⟨rfl, rfl, _, rfl, ?_, ?_⟩
  · have hm : (F ++ [X ++ [[]]]).map List.length = F.map List.length ++ [X.length + 1] := by simp
    refine ⟨⟨?_, ?_, ?_, ?_⟩, ?_, ?_, ?_, ?_, rB_iff.mpr ⟨hB.1, hB.2.1, by simp only [List.length_append, List.length_cons, List.length_nil, List.length_map, List.flatten_append, List.flatten_cons, List.flatten_nil, List.map_append, List.map_cons, List.map_nil, List.append_nil]; omega, by simp only [List.length_append, List.length_cons, List.length_nil, List.length_map, List.flatten_append, List.flatten_cons, List.flatten_nil, List.map_append, List.map_cons, List.map_nil, List.append_nil]; simpa using hB.2.2.2⟩⟩
    · rw [pk_un (by omega), pk_un (by omega), pk_un (by omega)]; exact h1
    · rw [pk_un (by omega), pk_un (by omega), pk_un (by omega), h2]; simp
    · rw [pk_un (by omega), pk_us, e1, List.length_append, w0]; rfl
    · rw [pk_un (by omega), pk_un (by omega), pk_un (by omega), e2]; exact h4
    · exact rowL_out (rowL_out (rowL_out h5 (by show _ ∨ q + 4 + lv.length ≤ _; omega)) (by omega)) (by show _ ∨ q + 4 + lv.length ≤ _; omega)
    · show rowL _ _ ((F ++ [X ++ [[]]]).map List.length)
      rw [hm]
      refine rowL_last (w := X.length) ?_ (by simp)
      exact rowL_out (rowL_out h6 (by right; simp only [List.length_append, List.length_cons, List.length_nil, List.length_map, List.flatten_append, List.flatten_cons, List.flatten_nil, List.map_append, List.map_cons, List.map_nil, List.append_nil]; omega)) (by omega)
    · rw [e1, List.map_append]
      refine rowL_out (rowL_out (rowL_app h7 (by rw [List.length_map, w0])) (by omega)) (by omega)
    · rw [e2]
      exact rowL_out (rowL_out (rowL_out h8 (by omega)) (by omega)) (by omega)
  · exact ((eqOff.rf.up (by omega)).up (by omega)).up (by omega)
theorem t_addCorner (H : mdA h M fs al) (hq : q + 332 ≤ 52000) (HR : rowIs al q (lv, F ++ [X ++ [C]])) (hb : F.flatten.flatten.length + (X.flatten.length + C.length) + 1 ≤ 200) (a : Nat) : ipC sc (d + 1) 101 [.ref M, .int (nI q), .int (nI a)] h z 0 0 (qW h M z (fun a2 => rowIs a2 q (lv, F ++ [X ++ [C ++ [a]]]) ∧ eqOff q al a2)) := by
  refine ipC_mk [some (.ref M), some (.int (nI q)), some (.int (nI a))] rfl (Nat.le_of_ble_eq_true rfl) ?_
  have hB := rB_iff.mp HR.2.2.2.2.2
  obtain ⟨⟨h1, h2, h3, h4⟩, h5, h6, h7, h8, -⟩ := HR
  have hB3 : F.flatten.length + X.length + 1 ≤ 64 := by have := hB.2.2.1; simp only [List.length_append, List.length_cons, List.length_nil] at this; omega
  have w0 : (pW (lv, F ++ [X ++ [C]])) = (F.flatten ++ X) ++ [C] := by rw [pW_app, List.append_assoc]
  have w1 : (pW (lv, F ++ [X ++ [C ++ [a]]])) = (F.flatten ++ X) ++ [C ++ [a]] := by rw [pW_app, List.append_assoc]
  have c0 : (pC (lv, F ++ [X ++ [C]])) = F.flatten.flatten ++ (X.flatten ++ C) := by rw [pC_app]; simp
  have c1 : (pC (lv, F ++ [X ++ [C ++ [a]]])) = (F.flatten.flatten ++ (X.flatten ++ C)) ++ [a] := by rw [pC_app]; simp
  have wl0 : ((F.flatten ++ X) ++ [C]).length = F.flatten.length + X.length + 1 := by simp only [List.length_append, List.length_cons, List.length_nil, List.length_map, List.flatten_append, List.flatten_cons, List.flatten_nil, List.map_append, List.map_cons, List.map_nil, List.append_nil]
  have cl0 : (F.flatten.flatten ++ (X.flatten ++ C)).length = F.flatten.flatten.length + (X.flatten.length + C.length) := by rw [List.length_append, List.length_append]
  rw [w0, wl0] at h3
  rw [c0, cl0] at h4
  rw [w0, List.map_append] at h7
  rw [c0] at h8
  have hx : al (q + 68 + (F.flatten.length + X.length)) = nI C.length := h7 (F.flatten.length + X.length) C.length (by rw [List.getElem?_append_right (by rw [List.length_map, List.length_append]; omega), List.length_map, List.length_append, Nat.sub_self]; rfl)
  have ei : q + 68 + (F.flatten.length + X.length + 1) - 1 = q + 68 + (F.flatten.length + X.length) := by omega
  refine c101_0 H.1 H.2.1 H.2.2 (by omega) (by decide) h4 (by omega) rfl (by omega) (v15 := F.flatten.flatten.length + (X.flatten.length + C.length)) (by rw [pk_un (by omega)]; exact h4) rfl (by omega) (v20 := F.flatten.length + X.length + 1) (by rw [pk_un (by omega), pk_un (by omega)]; exact h3) (by omega) (by omega) (v24 := C.length) (by rw [ei, pk_un (by omega), pk_un (by omega)]; exact hx) (congrArg (fun k => upd _ k _) ei) ⟨rfl, rfl, _, rfl, ?_, ?_⟩
  · refine ⟨⟨?_, ?_, ?_, ?_⟩, ?_, ?_, ?_, ?_, rB_iff.mpr ⟨hB.1, hB.2.1, by simp only [List.length_append, List.length_cons, List.length_nil, List.length_map, List.flatten_append, List.flatten_cons, List.flatten_nil, List.map_append, List.map_cons, List.map_nil, List.append_nil]; omega, by simp only [List.length_append, List.length_cons, List.length_nil, List.length_map, List.flatten_append, List.flatten_cons, List.flatten_nil, List.map_append, List.map_cons, List.map_nil, List.append_nil]; omega⟩⟩
    · rw [pk_un (by omega), pk_un (by omega), pk_un (by omega)]; exact h1
    · rw [pk_un (by omega), pk_un (by omega), pk_un (by omega), h2]; simp
    · rw [pk_un (by omega), pk_un (by omega), pk_un (by omega), w1, h3]; simp only [List.length_append, List.length_cons, List.length_nil, List.length_map, List.flatten_append, List.flatten_cons, List.flatten_nil, List.map_append, List.map_cons, List.map_nil, List.append_nil]
    · rw [pk_un (by omega), pk_us, c1, List.length_append, cl0]; rfl
    · exact rowL_out (rowL_out (rowL_out h5 (by show _ ∨ q + 4 + lv.length ≤ _; omega)) (by omega)) (by show _ ∨ q + 4 + lv.length ≤ _; omega)
    · have hm : (F ++ [X ++ [C ++ [a]]]).map List.length = (F ++ [X ++ [C]]).map List.length := by simp
      show rowL _ _ ((F ++ [X ++ [C ++ [a]]]).map List.length)
      rw [hm]
      exact rowL_out (rowL_out (rowL_out h6 (by right; simp only [List.length_append, List.length_cons, List.length_nil, List.length_map, List.flatten_append, List.flatten_cons, List.flatten_nil, List.map_append, List.map_cons, List.map_nil, List.append_nil]; omega)) (by omega)) (by right; simp only [List.length_append, List.length_cons, List.length_nil, List.length_map, List.flatten_append, List.flatten_cons, List.flatten_nil, List.map_append, List.map_cons, List.map_nil, List.append_nil]; omega)
    · rw [w1, List.map_append]
      show rowL _ _ ((F.flatten ++ X).map List.length ++ [(C ++ [a]).length])
      rw [List.length_append]
      refine rowL_last (w := C.length) ?_ (by simp only [List.length_append, List.length_cons, List.length_nil, List.length_map, List.flatten_append, List.flatten_cons, List.flatten_nil, List.map_append, List.map_cons, List.map_nil, List.append_nil])
      exact rowL_out (rowL_out h7 (by right; simp only [List.length_append, List.length_cons, List.length_nil, List.length_map, List.flatten_append, List.flatten_cons, List.flatten_nil, List.map_append, List.map_cons, List.map_nil, List.append_nil]; omega)) (by omega)
    · rw [c1]
      exact rowL_out (rowL_out (rowL_app h8 (by rw [cl0])) (by omega)) (by left; omega)
  · exact ((eqOff.rf.up (by omega)).up (by omega)).up (by omega)
end REF
