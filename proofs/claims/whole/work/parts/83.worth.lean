/-! the class's Solver: worth -/
section POS
variable {sc : ipSc} {d z b q le2 pc pc2 : Nat} {h : HP} {P : PosT}
theorem t_copy {B : PB} (H : pbIs h b 1 pc B) (HQ : plIs h q le2 pc2 P) (hd : ap5 b q) (hv : posOK P) (hlo : lone P) : ipC sc (d + 4) 53 [.ref b, .ref q] h z 0 0 (qB h b z (fun h2 => pbIs h2 b 1 pc2 (P.1, lnP 1 P.1 [] P.2, [], []))) := by
  obtain ⟨-, sa, wf, ff, lf, hps, r1, r2, r3, r4, k1, k2, k3, k4⟩ := id HQ
  rw [bW_c] at k2
  rw [bC_c] at k1
  simp only at k3 k4
  have hd5 : q + 5 ≤ b ∨ b + 5 ≤ q := hd
  refine ipC_mk [some (.ref b), some (.ref q), none] rfl (Nat.le_of_ble_eq_true rfl) ?_
  refine c53_0 H.ob (Nat.zero_le _) (Nat.zero_le _) (t_takeSpots H HQ hd) (kB fun h2 hf2 H2 => c53_5 ?_)
  have loop : ∀ (m f : Nat) (h3 : HP), f + m = P.2.length → frm b 5 h h3 → pbIs h3 b 1 pc2 (P.1, lnP 1 P.1 [] (P.2.take f), [], []) → ip sc (ipC sc (d + 3)) 53 0 0 (qB h b z (fun h2 => pbIs h2 b 1 pc2 (P.1, lnP 1 P.1 [] P.2, [], []))) 7 [some (.ref b), some (.ref q), some (.int (nI f))] [] h3 z 0 0 := by
    intro m
    induction m with
    | zero =>
      intro f h3 hf hf3 H3
      have hob : h3 q = _ := (hf3 q (by omega)).trans HQ.ob
      refine c53_7 (v_fs1_7 := P.2.length) hob rfl (by omega) (by omega) (fun _ => c53_27 ⟨rfl, rfl, hf3, ?_⟩) (fun r => absurd (by omega) r)
      rw [List.take_of_length_le (by omega)] at H3
      exact H3
    | succ m ih =>
      intro f h3 hf hf3 H3
      have hob : h3 q = _ := (hf3 q (by omega)).trans HQ.ob
      obtain ⟨Fd, hFd⟩ := gt_some (l := P.2) (i := f) (by omega)
      have HQ3 : plIs h3 q le2 pc2 P := HQ.off fun x a b => hf3 x (by omega)
      have hl := lnP_len (le := 1) (lv := P.1) (L := P.2.take f) (F := [])
      have et : P.2.take (f + 1) = P.2.take f ++ [Fd] := by rw [List.take_succ, hFd]; rfl
      have e1 : (P.2.take (f + 1)).flatten.flatten.length ≤ P.2.flatten.flatten.length := by
        conv => rhs; rw [← List.take_append_drop (f + 1) P.2, List.flatten_append, List.flatten_append, List.length_append]
        omega
      have e2 : (P.2.take (f + 1)).flatten.length ≤ P.2.flatten.length := by
        conv => rhs; rw [← List.take_append_drop (f + 1) P.2, List.flatten_append, List.length_append]
        omega
      rw [et] at e1 e2
      simp only [List.flatten_append, List.flatten_cons, List.flatten_nil, List.append_nil, List.length_append] at e1 e2
      simp only [List.flatten_nil, List.length_nil] at hl
      have htl : (P.2.take f).length ≤ f := by rw [List.length_take]; omega
      have hm : Fd ∈ P.2 := List.mem_of_getElem? hFd
      refine c53_7 (v_fs1_7 := P.2.length) hob rfl (by omega) (by omega) (fun r => absurd r (by omega)) (fun _ => ?_)
      refine c53_15 H3.ob (Nat.zero_le _) (Nat.zero_le _) (t_putField H3 HQ3 hd hFd (fun x hx => (hlo x (List.mem_flatten.mpr ⟨Fd, hm, hx⟩)).1) (fun c hc => ?_) hv.2 (by omega) (by omega) (by omega)) (kB fun h4 hf4 H4 => c53_21 (ih (f + 1) h4 (by omega) (hf3.tr hf4) ?_))
      · obtain ⟨x, hx, hcx⟩ := List.mem_flatten.mp hc
        exact hv.1 c (List.mem_flatten.mpr ⟨x, List.mem_flatten.mpr ⟨Fd, hm, hx⟩, hcx⟩)
      · rw [et, lnP_s]
        exact H4
  exact loop P.2.length 0 h2 (by omega) hf2 H2
theorem t_worth {S : Nat} (H : slv h S) (HQ : plIs h q le2 pc2 P) (hd : q + 5 ≤ S ∨ S + 83 ≤ q) (hv : vld P) (hs : P.1.sum ≤ 9) : ipC sc (d + 2 * 9 + 9) 66 [.ref S, .ref q] h z 0 0 (fun o h2 z2 => o = some (.int (nI (val P))) ∧ z2 = z ∧ frm S 83 h h2 ∧ slv h2 S) := by
  obtain ⟨pc5, B5, hB5⟩ := H.2.2.2.2.1
  refine ipC_mk [some (.ref S), some (.ref q)] rfl (Nat.le_of_ble_eq_true rfl) ?_
  refine c66_0 H.1 rfl hB5.ob (Nat.zero_le _) (Nat.zero_le _) (t_copy (d := d + 22) hB5 HQ (show q + 5 ≤ S + 19 ∨ S + 19 + 5 ≤ q by omega) hv.1 hv.2.1) (kB fun h2 hf2 D2 => ?_)
  have H2 : slv h2 S := H.dr hf2 ⟨_, _, D2⟩
  have hvl : val (P.1, lnP 1 P.1 [] P.2) = val P := val_ln (L := P.1) (F := P.2) hv
  refine c66_8 H2.1 (Nat.zero_le _) (Nat.zero_le _) (wd_all 9 (Nat.le_refl _) d z S 0 pc2 h2 (P.1, lnP 1 P.1 [] P.2) H2 D2 (vld_ln hv) lean_ln hs (by omega)) ?_
  rintro o h3 z3 ⟨rfl, rfl, sf3, H3⟩
  rw [hvl]
  refine c66_13 ⟨rfl, rfl, fun x hx => ?_, H3⟩
  rw [sf3.1 x hx, hf2 x (by omega)]
end POS
