/-! what the reference leaves out, and its numbering -/
theorem count_inj {σ : Nat → Nat} {a : Nat} : ∀ {l : List Nat}, (∀ b ∈ l, σ b = σ a → b = a) → (l.map σ).count (σ a) = l.count a
  | [], _ => rfl
  | b :: l, h => by
    have ih := count_inj (l := l) fun x hx => h x (List.mem_cons_of_mem _ hx)
    rw [List.map_cons, List.count_cons, List.count_cons, ih]
    congr 1
    by_cases e : b = a
    · rw [e]; simp
    · have : σ b ≠ σ a := fun q => e (h b (List.mem_cons_self ..) q)
      simp [e, this]
theorem vld_rn {σ : Nat → Nat} {P Q : PosT} (hP : vld P) (h : rn σ P Q) (h1 : ∀ a ∈ pC P, σ a < Q.1.length) (h2 : ∀ v ∈ Q.1, v ≤ 3) : vld Q := by
  have hpC := pC_ren h
  have hpW : pW Q = (pW P).map (List.map σ) := by
    unfold pW
    rw [h.1]
    unfold ren
    rw [List.map_flatten]
  refine ⟨⟨fun a ha => ?_, h2⟩, fun x hx => ?_, fun k hk => ?_⟩
  · rw [hpC] at ha
    obtain ⟨b, hb, rfl⟩ := List.mem_map.mp ha
    exact h1 b hb
  · rw [hpW] at hx
    obtain ⟨y, hy, rfl⟩ := List.mem_map.mp hx
    obtain ⟨q1, q2⟩ := hP.2.1 y hy
    refine ⟨fun q => q1 (List.map_eq_nil_iff.mp q), fun a ha e => ?_⟩
    obtain ⟨b, hb, rfl⟩ := List.mem_map.mp ha
    have hbC : b ∈ pC P := List.mem_flatten.mpr ⟨y, hy, hb⟩
    rw [h.2.2 b hbC] at e
    rw [List.length_map]
    exact q2 b hb e
  · by_cases e : k ∈ pC Q
    · rw [hpC] at e
      obtain ⟨b, hb, rfl⟩ := List.mem_map.mp e
      rw [h.2.2 b hb, hpC, count_inj fun x hx q => h.2.1 x hx b hb q]
      exact hP.2.2 b (hP.1.1 b hb)
    · rw [List.count_eq_zero.mpr e]
      exact Nat.zero_le _
/-- numbers in the order of first sight -/
def cnP (L D : List Nat) (F : List (List (List Nat))) : PosT := (D.map (fun s => L.getD s 0), ren (fun s => D.idxOf s) F)
theorem idx_inj {D : List Nat} {a b : Nat} (ha : a ∈ D) (h : D.idxOf a = D.idxOf b) : a = b := by
  have h1 := List.idxOf_lt_length_of_mem ha
  have e1 : D[D.idxOf a]? = some a := by rw [List.getElem?_eq_getElem h1, List.getElem_idxOf h1]
  by_cases hb : b ∈ D
  · have h2 := List.idxOf_lt_length_of_mem hb
    have e2 : D[D.idxOf b]? = some b := by rw [List.getElem?_eq_getElem h2, List.getElem_idxOf h2]
    rw [h, e2] at e1
    exact (Option.some.inj e1).symm
  · rw [List.idxOf_eq_length hb] at h
    omega
theorem rn_cn {L D : List Nat} {F : List (List (List Nat))} (hF : ∀ a ∈ F.flatten.flatten, a ∈ D) : rn (fun s => D.idxOf s) (L, F) (cnP L D F) := by
  refine ⟨rfl, fun a ha b hb q => idx_inj (hF a ha) q, fun a ha => ?_⟩
  have h1 := List.idxOf_lt_length_of_mem (hF a ha)
  refine getD_of ?_
  unfold cnP
  rw [List.getElem?_map, List.getElem?_eq_getElem h1, List.getElem_idxOf h1]
  rfl
theorem vld_cn {L D : List Nat} {F : List (List (List Nat))} (hv : vld (L, F)) (hF : ∀ a ∈ F.flatten.flatten, a ∈ D) (hD : ∀ a ∈ D, a < L.length) : vld (cnP L D F) := by
  refine vld_rn hv (rn_cn hF) (fun a ha => ?_) (fun v hx => ?_)
  · unfold cnP
    rw [List.length_map]
    exact List.idxOf_lt_length_of_mem (hF a ha)
  · unfold cnP at hx
    obtain ⟨a, ha, rfl⟩ := List.mem_map.mp hx
    exact posOK_le hv.1 a
theorem val_cn {L D : List Nat} {F : List (List (List Nat))} (hv : vld (L, F)) (hF : ∀ a ∈ F.flatten.flatten, a ∈ D) (hD : ∀ a ∈ D, a < L.length) : val (cnP L D F) = val (L, F) := (val_ren hv (vld_cn hv hF hD) (rn_cn hF)).symm
theorem sum_set0 : ∀ {L : List Nat} {s : Nat}, s < L.length → (L.set s 0).sum + L.getD s 0 = L.sum
  | x :: L, 0, _ => by simp; omega
  | x :: L, s + 1, h => by
    have ih := sum_set0 (L := L) (s := s) (by simpa using h)
    simp only [List.set_cons_succ, List.sum_cons, List.getD_cons_succ]
    omega
theorem sum_dist : ∀ {D L : List Nat}, D.Nodup → (∀ s ∈ D, s < L.length) → (D.map (fun s => L.getD s 0)).sum ≤ L.sum
  | [], L, _, _ => Nat.zero_le _
  | s :: D, L, h1, h2 => by
    obtain ⟨h3, h4⟩ := List.nodup_cons.mp h1
    have h5 := sum_set0 (h2 s (List.mem_cons_self ..))
    have ih := sum_dist (D := D) (L := L.set s 0) h4 fun q hq => by rw [List.length_set]; exact h2 q (List.mem_cons_of_mem _ hq)
    have e : D.map (fun q => (L.set s 0).getD q 0) = D.map (fun q => L.getD q 0) := List.map_congr_left fun q hq => by
      have : s ≠ q := fun r => h3 (r ▸ hq)
      rw [List.getD_eq_getElem?_getD, List.getElem?_set_ne this, ← List.getD_eq_getElem?_getD]
    rw [e] at ih
    rw [List.map_cons, List.sum_cons]
    omega
theorem nodup_len {D : List Nat} {n : Nat} (h1 : D.Nodup) (h2 : ∀ s ∈ D, s < n) : D.length ≤ n := by
  have h := sum_dist (L := List.replicate n 1) h1 (fun s hs => by rw [List.length_replicate]; exact h2 s hs)
  have e : D.map (fun s => (List.replicate n 1).getD s 0) = D.map (fun _ => 1) := List.map_congr_left fun q hq => by
    rw [getD_rep, if_pos (h2 q hq)]
  rw [e, List.map_const', List.sum_replicate_nat, List.sum_replicate_nat] at h
  omega
theorem ren_more {D : List Nat} {s : Nat} {F : List (List (List Nat))} (hF : ∀ a ∈ F.flatten.flatten, a ∈ D) : ren (fun a => (D ++ [s]).idxOf a) F = ren (fun a => D.idxOf a) F := ren_congr fun a ha => by
  rw [List.idxOf_append, if_pos (hF a ha)]
/-- live corners alone, no empty walls, no empty fields -/
def lvF (L : List Nat) (a : Nat) : Bool := decide (1 ≤ L.getD a 0)
def rdW (L : List Nat) (Fd : List (List Nat)) : List (List Nat) := (Fd.map (fun x => x.filter (lvF L))).filter (fun x => !x.isEmpty)
def rdP (L : List Nat) (F : List (List (List Nat))) : List (List (List Nat)) := (F.map (rdW L)).filter (fun X => !X.isEmpty)
theorem NE_filter {L : List Nat} : ∀ {x : List Nat}, (∀ a ∈ x, a < L.length) → NE L x (x.filter (lvF L))
  | [], _ => .rfl _
  | a :: x, h => by
    have ih := NE_filter (x := x) fun b hb => h b (List.mem_cons_of_mem _ hb)
    have ha := h a (List.mem_cons_self ..)
    by_cases e : lvF L a = true
    · rw [List.filter_cons_of_pos e]
      exact .app (x := [a]) (y := [a]) (.rfl _) ih
    · rw [List.filter_cons_of_neg e]
      refine .app (x := [a]) (y := []) (.ded fun q => e ?_) ih
      unfold lvd at q
      unfold lvF
      rw [List.getD_eq_getElem?_getD, List.getElem?_eq_getElem ha] at q ⊢
      exact decide_eq_true q
theorem NE_WR {L x y : List Nat} (h : NE L x y) (hx : lvW L x = true) : WR L x y := by
  obtain ⟨a, h1, h2⟩ := lvW_iff.mp hx
  obtain ⟨p, q, rfl⟩ := List.append_of_mem h1
  obtain ⟨p2, q2, e, h3, h4⟩ := h.cut h2 rfl
  exact ⟨a, p, q, p2, q2, h2, rfl, e, by simpa using NE.app h4 h3⟩
theorem NE_lvW {L x y : List Nat} (h : NE L x y) : lvW L x = lvW L y := by
  rw [Bool.eq_iff_iff, lvW_iff, lvW_iff]
  exact ⟨fun ⟨a, h1, h2⟩ => ⟨a, h.mem h2 h1, h2⟩, fun ⟨a, h1, h2⟩ => ⟨a, h.sym.mem h2 h1, h2⟩⟩
theorem FR_map {L : List Nat} {g : List Nat → List Nat} : ∀ {F : List (List Nat)}, (∀ x ∈ F, NE L x (g x)) → FR L F (F.map g)
  | [], _ => .refl
  | x :: F, h => by
    have ih := FR_map (F := F) fun y hy => h y (List.mem_cons_of_mem _ hy)
    have hx := h x (List.mem_cons_self ..)
    by_cases e : lvW L x = true
    · exact .cons (NE_WR hx e) ih
    · unfold FR
      rw [List.map_cons, List.filter_cons_of_neg e, List.filter_cons_of_neg (by rw [← NE_lvW hx]; exact e)]
      exact ih
theorem FR_drop {L : List Nat} {p : List Nat → Bool} {F : List (List Nat)} (h : ∀ x ∈ F, p x = false → lvW L x = false) : FR L F (F.filter p) := by
  unfold FR
  have : (F.filter p).filter (lvW L) = F.filter (lvW L) := by
    rw [List.filter_filter]
    refine List.filter_congr fun x hx => ?_
    cases e : p x with
    | true => simp
    | false => rw [h x hx e]; rfl
  rw [this]
  exact FR.refl (F := F)
theorem rdW_FR {L : List Nat} {Fd : List (List Nat)} (h : ∀ a ∈ Fd.flatten, a < L.length) : FR L Fd (rdW L Fd) := by
  refine (FR_map fun x hx => NE_filter fun a ha => h a (List.mem_flatten.mpr ⟨x, hx, ha⟩)).trans (FR_drop fun x hx e => ?_)
  cases x with
  | nil => rfl
  | cons b x => cases e
theorem RR_map {L : List Nat} {g : List (List Nat) → List (List Nat)} : ∀ {F : List (List (List Nat))}, (∀ X ∈ F, FM L X (g X)) → RR L F (F.map g)
  | [], _ => .refl
  | X :: F, h => .cons (h X (List.mem_cons_self ..)) (RR_map fun Y hY => h Y (List.mem_cons_of_mem _ hY))
theorem RR_drop {L : List Nat} {p : List (List Nat) → Bool} {F : List (List (List Nat))} (h : ∀ X ∈ F, p X = false → mov L X = false) : RR L F (F.filter p) := by
  unfold RR
  have : (F.filter p).filter (mov L) = F.filter (mov L) := by
    rw [List.filter_filter]
    refine List.filter_congr fun x hx => ?_
    cases e : p x with
    | true => simp
    | false => rw [h x hx e]; rfl
  rw [this]
  exact RR.refl (P := F)
theorem rdP_RR {L : List Nat} {F : List (List (List Nat))} (h : ∀ a ∈ F.flatten.flatten, a < L.length) : RR L F (rdP L F) := by
  refine (RR_map fun X hX => .inl (rdW_FR fun a ha => h a ?_)).trans (RR_drop fun X hX e => ?_)
  · obtain ⟨x, h1, h2⟩ := List.mem_flatten.mp ha
    exact List.mem_flatten.mpr ⟨x, List.mem_flatten.mpr ⟨X, hX, h1⟩, h2⟩
  · cases X with
    | nil => rfl
    | cons b x => cases e
theorem rdW_mem {L : List Nat} {Fd : List (List Nat)} {x : List Nat} (h : x ∈ rdW L Fd) : x ≠ [] ∧ ∃ y ∈ Fd, x = y.filter (lvF L) := by
  obtain ⟨h1, h2⟩ := List.mem_filter.mp h
  obtain ⟨y, h3, rfl⟩ := List.mem_map.mp h1
  exact ⟨fun q => (by rw [q] at h2; cases h2), y, h3, rfl⟩
theorem rdP_w {L : List Nat} {F : List (List (List Nat))} : (rdP L F).flatten = rdW L F.flatten := by
  unfold rdP rdW
  induction F with
  | nil => rfl
  | cons X F ih =>
    rw [List.map_cons, List.flatten_cons, List.map_append, List.filter_append, ← ih]
    cases e : (X.map (fun x => x.filter (lvF L))).filter (fun x => !x.isEmpty) with
    | nil => rfl
    | cons a l => rfl
theorem rdW_c {L : List Nat} {Fd : List (List Nat)} : (rdW L Fd).flatten = Fd.flatten.filter (lvF L) := by
  unfold rdW
  induction Fd with
  | nil => rfl
  | cons x Fd ih =>
    rw [List.map_cons, List.flatten_cons, List.filter_append, ← ih]
    cases e : x.filter (lvF L) with
    | nil => rfl
    | cons a l => rfl
theorem vld_rd {P : PosT} (hv : vld P) : vld (P.1, rdP P.1 P.2) := by
  have hpC : pC (P.1, rdP P.1 P.2) = (pC P).filter (lvF P.1) := by
    unfold pC pW
    rw [rdP_w, rdW_c]
  refine ⟨⟨fun a ha => ?_, hv.1.2⟩, fun x hx => ?_, fun a ha => ?_⟩
  · rw [hpC] at ha
    exact hv.1.1 a (List.mem_filter.mp ha).1
  · have hx : x ∈ (rdP P.1 P.2).flatten := hx
    rw [rdP_w] at hx
    obtain ⟨h1, y, h2, rfl⟩ := rdW_mem hx
    refine ⟨h1, fun a ha e => ?_⟩
    have h3 := (hv.2.1 y h2).2 a (List.mem_filter.mp ha).1 e
    have h4 := List.length_filter_le (lvF P.1) y
    have h5 : 0 < (y.filter (lvF P.1)).length := List.length_pos_of_mem ha
    omega
  · rw [hpC]
    refine Nat.le_trans ?_ (hv.2.2 a ha)
    exact List.Sublist.count_le a List.filter_sublist
theorem val_rd {P : PosT} (hv : vld P) : val (P.1, rdP P.1 P.2) = val P := (val_RR hv (vld_rd hv) rfl (rdP_RR hv.1.1)).symm
