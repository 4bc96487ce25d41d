/-! the worth of a key -/
def uL (y : Int64) : Nat := y.toBitVec.toNat
def kP (N1 N2 : Nat) : PosT := ((dcd (keyC N1 N2)).1, (dcd (keyC N1 N2)).2.1)
def Vf (y1 y3 : Int64) : Nat := val (kP (uL y1) (uL y3))
/-- a key that can be read -/
def keyOK (N1 N2 n : Nat) : Prop := N1 < 2 ^ 60 ∧ N2 < 2 ^ 60 ∧ (dcd (keyC N1 N2)).2.2.1 = [] ∧ (dcd (keyC N1 N2)).2.2.2 = [] ∧ vld (kP N1 N2) ∧ lean (kP N1 N2) ∧ (kP N1 N2).1.sum ≤ n
theorem Vf_at {N1 N2 : Nat} (h1 : N1 < 2 ^ 60) (h2 : N2 < 2 ^ 60) : Vf (lN N1) (lN N2) = val (kP N1 N2) := by
  unfold Vf uL
  rw [lN_tn (by omega), lN_tn (by omega)]
section SP
variable {P : PosT}
theorem lean_lv (hv : vld P) (hle : lean P) : ∀ x ∈ pW P, lvW P.1 x = true := fun x hx => by
  cases e : x with
  | nil => exact absurd e (hv.2.1 x hx).1
  | cons a l =>
    have ha : a ∈ x := by rw [e]; exact List.mem_cons_self ..
    rw [← e]
    exact lvW_iff.mpr ⟨a, ha, lvd_of (hle.1 a (List.mem_flatten.mpr ⟨x, hx, ha⟩))⟩
theorem wlk_wall {w : Nat} {V : List (List (List Nat))} (h : wlk P w V) (hW : (pW P).length ≤ 31) : ∀ X ∈ V, ∀ x ∈ X, x ≠ [] ∧ ∃ y ∈ pW P, x.Perm y := by
  obtain ⟨wr, so, tu, l, h1, h2, rfl⟩ := h
  intro X hX x hx
  obtain ⟨f, hf, rfl⟩ := List.mem_map.mp hX
  refine ⟨vF_ne (h2 f hf).1 (h2 f hf).2 hW x hx, ?_⟩
  obtain ⟨ok0, ok1, way, hway, htu⟩ := (h2 f hf).2
  have ok : rwOK P f way wr so := by
    rcases hway with rfl | rfl
    · exact ok0
    · exact ok1
  obtain ⟨o1, o2, o3⟩ := ok.ls hW
  have huw : uI (tu f) = way := by rw [htu, uI_nI (by omega)]
  unfold vF wV at hx
  rw [huw] at hx
  obtain ⟨w2, hw2, rfl⟩ := List.mem_map.mp hx
  obtain ⟨-, y, k1, k2, k3⟩ := o3 w2 hw2
  have e : wx P w2 = y := getD_of k1
  rw [e]
  exact ⟨y, List.mem_of_getElem? k1, rotW_perm k2 hway⟩
theorem wlk_ne {w : Nat} {V : List (List (List Nat))} (h : wlk P w V) (hW : (pW P).length ≤ 31) (hneF : ∀ X ∈ P.2, X ≠ []) : ∀ X ∈ V, X ≠ [] := by
  obtain ⟨wr, so, tu, l, h1, h2, rfl⟩ := h
  intro X hX q
  obtain ⟨f, hf, rfl⟩ := List.mem_map.mp hX
  obtain ⟨hfl, ok0, ok1, way, hway, htu⟩ := h2 f hf
  have ok : rwOK P f way wr so := by
    rcases hway with rfl | rfl
    · exact ok0
    · exact ok1
  obtain ⟨o1, -, -⟩ := ok.ls hW
  have huw : uI (tu f) = way := by rw [htu, uI_nI (by omega)]
  unfold vF wV at q
  rw [huw, List.map_eq_nil_iff] at q
  rw [q] at o1
  have := o1.length_eq
  rw [List.length_range', List.length_nil] at this
  have h3 : 0 < fl P f := List.length_pos_iff.mpr (hneF _ (List.mem_of_getElem? (gD (d := []) hfl)))
  omega
theorem vld_V (hv : vld P) {w : Nat} {V : List (List (List Nat))} (h : wlk P w V) (hW : (pW P).length ≤ 31) : vld (P.1, V) := by
  have hp := h.perm hW
  have hv2 := vld_sM hv (flM_nodup (w := w) (n := P.2.length)) (fun f hf => (flM_mem.mp hf).1)
  refine ⟨⟨fun a ha => hv2.1.1 a (hp.subset ha), hv.1.2⟩, fun x hx => ?_, fun a ha => ?_⟩
  · obtain ⟨X, hX, hxX⟩ := List.mem_flatten.mp hx
    obtain ⟨k1, y, hy, hxy⟩ := wlk_wall h hW X hX x hxX
    refine ⟨k1, fun a ha e => ?_⟩
    rw [hxy.length_eq]
    exact (hv.2.1 y hy).2 a (hxy.subset ha) e
  · have := hv2.2.2 a ha
    have e : (pC (P.1, V)).count a = (pC (P.1, sM P.2 (flM w P.2.length))).count a := hp.count_eq a
    rw [e]
    exact this
theorem val_V (hv : vld P) (hle : lean P) {w : Nat} {V : List (List (List Nat))} (h : wlk P w V) (hW : (pW P).length ≤ 31) : val (P.1, V) = val (P.1, sM P.2 (flM w P.2.length)) := by
  have hv2 := vld_sM hv (flM_nodup (w := w) (n := P.2.length)) (fun f hf => (flM_mem.mp hf).1)
  have hv3 := vld_V hv h hW
  obtain ⟨wr, so, tu, l, h1, h2, rfl⟩ := h
  refine (val_RR hv2 hv3 rfl ?_).symm
  exact (RR.perm (h1.symm.map _)).trans (vR_RR h2 hW (lean_lv hv hle))
theorem codes_ok {L : List Nat} {tN : Nat → Nat} {V : List (List (List Nat))} (h16 : ∀ a ∈ V.flatten.flatten, sgn L tN V.flatten.flatten a < 16) (hVw : ∀ X ∈ V, ∀ x ∈ X, x ≠ []) (hTl : V.flatten.flatten.length ≤ 20) : (∀ c ∈ kyC L tN V, c < 64 ∧ 0 < c) ∧ (kyC L tN V).length ≤ 20 := by
  obtain ⟨el, em⟩ := ends_len (V := V) hVw
  constructor
  · intro c hc
    unfold kyC at hc
    obtain ⟨k, hk⟩ := List.getElem?_of_mem hc
    have hkl := lt_some hk
    unfold kcL at hkl
    rw [List.length_zipWith] at hkl
    obtain ⟨a, ha⟩ := gt_some (l := V.flatten.flatten) (i := k) (by omega)
    obtain ⟨e, he⟩ := gt_some (l := ends V) (i := k) (by omega)
    rw [kcL_at ha he] at hk
    have h1 := h16 a (List.mem_of_getElem? ha)
    have h2 := em e (List.mem_of_getElem? he)
    have h3 : 0 < sgn L tN V.flatten.flatten a := by
      unfold sgn
      split
      · omega
      · omega
    have := Option.some.inj hk
    omega
  · unfold kyC kcL
    rw [List.length_zipWith]
    omega
/-- what the name of a part is worth -/
theorem key_val (hv : vld P) (hle : lean P) (hC : (pC P).length ≤ 20) (hs : P.1.sum ≤ 11) (hW : (pW P).length ≤ 31) {w : Nat} {V : List (List (List Nat))} (h : wlk P w V) {tN : Nat → Nat} (ht : ∀ a, tN a = (pC P).count a) : keyOK (ncd ((kyC P.1 tN V).take 10)) (ncd ((kyC P.1 tN V).drop 10)) P.1.sum ∧ val (kP (ncd ((kyC P.1 tN V).take 10)) (ncd ((kyC P.1 tN V).drop 10))) = val (P.1, sM P.2 (flM w P.2.length)) := by
  have hneF : ∀ X ∈ P.2, X ≠ [] := fun X hX q => by
    have := hle.2 X hX
    rw [q] at this
    cases this
  have hp := h.perm hW
  have hsl := sM_len (F := P.2) (flM_nodup (w := w) (n := P.2.length)) (fun f hf => (flM_mem.mp hf).1)
  have hTl : V.flatten.flatten.length ≤ 20 := by
    rw [hp.length_eq]
    have : P.2.flatten.flatten.length = (pC P).length := rfl
    omega
  have hTm : ∀ a ∈ V.flatten.flatten, a ∈ pC P := fun a ha => hsl.2 a (hp.subset ha)
  have hTc : ∀ a, V.flatten.flatten.count a ≤ (pC P).count a := fun a => by
    rw [hp.count_eq a]
    obtain ⟨R, hR⟩ := sM_sub (F := P.2) (flM_nodup (w := w) (n := P.2.length)) (fun f hf => (flM_mem.mp hf).1)
    have hp2 := fl_perm (fl_perm hR)
    rw [List.flatten_append, List.flatten_append] at hp2
    have := hp2.count_eq a
    rw [List.count_append] at this
    have e : P.2.flatten.flatten = pC P := rfl
    rw [e] at this
    omega
  have hvV := vld_V hv h hW
  have hVw := wlk_wall h hW
  have hVn := wlk_ne h hW hneF
  have hl : ∀ a ∈ V.flatten.flatten, 1 ≤ P.1.getD a 0 ∧ P.1.getD a 0 ≤ 3 := fun a ha => ⟨by have := hle.1 a (hTm a ha); omega, posOK_le hv.1 a⟩
  have h1 : ∀ a ∈ V.flatten.flatten, kdN (P.1.getD a 0) (tN a) ≠ 0 → V.flatten.flatten.count a ≤ 1 := fun a ha k => by
    have hc := hTc a
    by_cases q : 2 ≤ P.1.getD a 0
    · have := occ2 hv.2.2 q (posOK_le hv.1 a)
      omega
    · have : tN a < 2 := by
        unfold kdN at k
        rw [if_neg (by omega), if_neg (by omega)] at k
        by_cases r : tN a < 2
        · exact r
        · rw [if_neg r] at k; exact absurd rfl k
      rw [ht] at this
      omega
  have hD11 : (ddF (V.flatten.flatten.filter (ltF P.1 tN))).length ≤ 11 := by
    have hm : ∀ x ∈ ddF (V.flatten.flatten.filter (ltF P.1 tN)), x ∈ pC P := fun x hx => hTm x (List.mem_filter.mp (ddF_mem.mp hx)).1
    have k1 := sum_dist (L := P.1) ddF_nodup (fun s hs => hv.1.1 s (hm s hs))
    have k2 := sum_ge (l := (ddF (V.flatten.flatten.filter (ltF P.1 tN))).map (fun s => P.1.getD s 0)) (fun v hv => by
      obtain ⟨s, hs, rfl⟩ := List.mem_map.mp hv
      have := hle.1 s (hm s hs)
      omega)
    rw [List.length_map] at k2
    omega
  have h16 : ∀ a ∈ V.flatten.flatten, sgn P.1 tN V.flatten.flatten a < 16 := fun a ha => by
    unfold sgn
    have k1 := kdN_le (l := P.1.getD a 0) (t := tN a)
    split
    · have k2 : (ddF (V.flatten.flatten.filter (ltF P.1 tN))).idxOf a ≤ (ddF (V.flatten.flatten.filter (ltF P.1 tN))).length := List.idxOf_le_length
      omega
    · omega
  obtain ⟨hco, hcl⟩ := codes_ok h16 (fun X hX x hx => (hVw X hX x hx).1) hTl
  have hkc : keyC (ncd ((kyC P.1 tN V).take 10)) (ncd ((kyC P.1 tN V).drop 10)) = kyC P.1 tN V := by
    unfold keyC
    rw [cds_ncd (by rw [List.length_take]; omega) (fun c hc => hco c (List.mem_of_mem_take hc)), cds_ncd (by rw [List.length_drop]; omega) (fun c hc => hco c (List.mem_of_mem_drop hc)), List.take_append_drop]
  have lt60 : ∀ l : List Nat, l.length ≤ 10 → (∀ c ∈ l, c < 64) → ncd l < 2 ^ 60 := fun l hl hc => by
    have k := ncd_lt hc
    have k2 : (64 : Nat) ^ l.length ≤ 64 ^ 10 := Nat.pow_le_pow_right (by decide) hl
    have k3 : (64 : Nat) ^ 10 = 2 ^ 60 := by decide
    omega
  have hdk := dcd_key (tN := tN) (fun X hX => ⟨hVn X hX, fun x hx => (hVw X hX x hx).1⟩) hl h1 h16
  have hDm : ∀ a ∈ V.flatten.flatten, a ∈ ddF V.flatten.flatten := fun a ha => ddF_mem.mpr ha
  have hDl : ∀ a ∈ ddF V.flatten.flatten, a < P.1.length := fun a ha => hv.1.1 a (hTm a (ddF_mem.mp ha))
  have hvc := vld_cn hvV hDm hDl
  have hkP : kP (ncd ((kyC P.1 tN V).take 10)) (ncd ((kyC P.1 tN V).drop 10)) = ((cnP P.1 (ddF V.flatten.flatten) V).1, lnP 1 (cnP P.1 (ddF V.flatten.flatten) V).1 [] (cnP P.1 (ddF V.flatten.flatten) V).2) := by
    unfold kP
    rw [hkc, hdk]
  refine ⟨⟨lt60 _ (by rw [List.length_take]; omega) (fun c hc => (hco c (List.mem_of_mem_take hc)).1), lt60 _ (by rw [List.length_drop]; omega) (fun c hc => (hco c (List.mem_of_mem_drop hc)).1), ?_, ?_, ?_, ?_, ?_⟩, ?_⟩
  · rw [hkc, hdk]
  · rw [hkc, hdk]
  · rw [hkP]
    exact vld_ln hvc
  · rw [hkP]
    exact lean_ln
  · rw [hkP]
    exact cn_sum (F := V) ddF_nodup hDl
  · rw [hkP]
    exact (val_ln (L := (cnP P.1 (ddF V.flatten.flatten) V).1) (F := (cnP P.1 (ddF V.flatten.flatten) V).2) hvc).trans ((val_cn hvV hDm hDl).trans (val_V hv hle h hW))
end SP
