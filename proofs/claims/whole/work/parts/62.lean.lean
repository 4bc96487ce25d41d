/-! lean positions of the class have the same worth -/
def lw (L x : List Nat) : List Nat := pC1 (putL 1 L [] x)
theorem lnW_eq {L : List Nat} : ∀ {Fd X : List (List Nat)}, lnW 1 L X Fd = X ++ (Fd.map (lw L)).filter (fun x => !x.isEmpty)
  | [], X => by simp [lnW]
  | x :: Fd, X => by
    have e : lnW 1 L X (x :: Fd) = lnW 1 L (clW 1 X (putL 1 L [] x)) Fd := rfl
    rw [e, lnW_eq]
    unfold clW
    rw [if_pos rfl, List.map_cons]
    by_cases c : pC1 (putL 1 L [] x) = []
    · rw [if_pos c, List.filter_cons_of_neg (by unfold lw; rw [c]; simp)]
    · rw [if_neg c, List.filter_cons_of_pos (by unfold lw; simp [c]), List.append_assoc]
      rfl
theorem lnP_eq {L : List Nat} : ∀ {F G : List (List (List Nat))}, lnP 1 L G F = G ++ (F.map (lnW 1 L [])).filter (fun X => cMv L X.flatten)
  | [], G => by simp [lnP]
  | X :: F, G => by
    have e : lnP 1 L G (X :: F) = lnP 1 L (clF 1 L G (lnW 1 L [] X)) F := rfl
    rw [e, lnP_eq]
    unfold clF
    rw [List.map_cons]
    by_cases c : cMv L (lnW 1 L [] X).flatten = true
    · rw [if_neg (by rw [c]; simp), List.filter_cons_of_pos (p := fun X : List (List Nat) => cMv L X.flatten) c, List.append_assoc]
      rfl
    · have c2 : cMv L (lnW 1 L [] X).flatten = false := by simpa using c
      rw [if_pos ⟨rfl, c2⟩, List.filter_cons_of_neg (p := fun X : List (List Nat) => cMv L X.flatten) c]
theorem getD_10 {L : List Nat} {a : Nat} (h : a < L.length) : L.getD a 1 = L.getD a 0 := by
  rw [List.getD_eq_getElem?_getD, List.getD_eq_getElem?_getD, List.getElem?_eq_getElem h]
  rfl
theorem put_NE {L : List Nat} : ∀ {x C : List Nat}, (∀ a ∈ x, a < L.length) → NE L (C ++ x) (putL 1 L C x)
  | [], C, _ => by rw [List.append_nil]; exact .rfl _
  | a :: x, C, h => by
    have e : putL 1 L C (a :: x) = putL 1 L (pPut 1 L C a) x := rfl
    have ih := put_NE (x := x) (C := pPut 1 L C a) fun b hb => h b (List.mem_cons_of_mem _ hb)
    rw [e]
    refine .trn ?_ ih
    have ha := h a (List.mem_cons_self ..)
    have key : NE L (C ++ [a]) (pPut 1 L C a) := by
      unfold pPut
      by_cases q : L.getD a 0 = 0
      · rw [if_pos ⟨rfl, Or.inl q⟩]
        have := NE.app (NE.rfl (L := L) C) (NE.ded (L := L) (d := a) (fun r => by unfold lvd at r; rw [getD_10 ha, q] at r; omega))
        rwa [List.append_nil] at this
      · by_cases q2 : C.getLast? = some a
        · rw [if_pos ⟨rfl, Or.inr q2⟩]
          obtain ⟨C0, rfl⟩ := List.getLast?_eq_some_iff.mp q2
          have := NE.glue (L := L) (b := a) (x := C0) (y := [])
          simpa using this
        · rw [if_neg (fun r => by rcases r.2 with r | r; exact q r; exact q2 r)]
          exact .rfl _
    have := NE.app key (NE.rfl (L := L) x)
    simpa using this
theorem put_sub {L : List Nat} : ∀ {x C : List Nat}, (putL 1 L C x).Sublist (C ++ x)
  | [], C => by rw [List.append_nil]; exact List.Sublist.refl _
  | a :: x, C => by
    have e : putL 1 L C (a :: x) = putL 1 L (pPut 1 L C a) x := rfl
    rw [e]
    refine (put_sub (x := x) (C := pPut 1 L C a)).trans ?_
    unfold pPut
    split
    · exact (List.Sublist.refl C).append (List.sublist_cons_self a x)
    · rw [List.append_assoc]
      exact List.Sublist.refl _
theorem pC1_sub {C : List Nat} : (pC1 C).Sublist C := by
  unfold pC1
  split
  · exact List.dropLast_sublist C
  · exact List.Sublist.refl _
theorem lw_sub {L x : List Nat} : (lw L x).Sublist x := pC1_sub.trans (by simpa using put_sub (L := L) (x := x) (C := []))
theorem put_live {L : List Nat} : ∀ {x C : List Nat}, (∀ a ∈ C, L.getD a 0 ≠ 0) → ∀ a ∈ putL 1 L C x, L.getD a 0 ≠ 0
  | [], C, h => h
  | b :: x, C, h => by
    have e : putL 1 L C (b :: x) = putL 1 L (pPut 1 L C b) x := rfl
    rw [e]
    refine put_live fun a ha => ?_
    unfold pPut at ha
    split at ha
    · exact h a ha
    · rename_i q
      rcases List.mem_append.mp ha with ha | ha
      · exact h a ha
      · rw [List.mem_singleton.mp ha]
        exact fun r => q ⟨rfl, Or.inl r⟩
theorem lw_live {L x : List Nat} : ∀ a ∈ lw L x, L.getD a 0 ≠ 0 := fun a ha => put_live (C := []) (fun _ h => by cases h) a (pC1_sub.subset ha)
theorem pC1_WR {L C : List Nat} (h : lvW L C = true) (hC : ∀ a ∈ C, lvd L a) : WR L C (pC1 C) := by
  unfold pC1
  split
  · rename_i q
    obtain ⟨q1, q2⟩ := q
    match C, q1, q2, hC with
    | a :: C, q1, q2, hC =>
      have hne : C ≠ [] := fun r => by rw [r] at q1; simp at q1
      obtain ⟨m, b, rfl⟩ : ∃ m b, C = m ++ [b] := ⟨C.dropLast, C.getLast hne, (List.dropLast_concat_getLast hne).symm⟩
      have hb : a = b := by
        have : (a :: (m ++ [b])).getLast? = some b := by
          rw [List.getLast?_cons, List.getLast?_append]
          simp
        rw [this] at q2
        exact Option.some.inj q2
      subst hb
      have e : (a :: (m ++ [a])).dropLast = a :: m := by
        rw [show a :: (m ++ [a]) = (a :: m) ++ [a] by simp, List.dropLast_concat]
      rw [e]
      refine ⟨a, [], m ++ [a], [], m, hC a (List.mem_cons_self ..), rfl, rfl, ?_⟩
      have := NE.glue (L := L) (b := a) (x := a :: m) (y := [])
      simpa using this
  · exact .of_lv h
theorem lvd_of {L : List Nat} {a : Nat} (h : L.getD a 0 ≠ 0) : lvd L a := lvd_0 (by omega)
theorem lw_WR {L x : List Nat} (hx : ∀ a ∈ x, a < L.length) (h : lvW L x = true) : WR L x (lw L x) := by
  have h1 : NE L x (putL 1 L [] x) := by simpa using put_NE (L := L) (x := x) (C := []) hx
  refine (NE_WR h1 h).trans (pC1_WR ?_ fun a ha => lvd_of (put_live (C := []) (fun _ h => by cases h) a ha))
  rw [← NE_lvW h1]
  exact h
theorem lw_dead {L x : List Nat} (hx : ∀ a ∈ x, a < L.length) (h : lvW L x = false) : lw L x = [] := by
  cases hc : lw L x with
  | nil => rfl
  | cons a l =>
    have ha : a ∈ lw L x := hc ▸ List.mem_cons_self ..
    have := lvW_iff.mpr ⟨a, lw_sub.subset ha, lvd_of (lw_live a ha)⟩
    rw [h] at this
    cases this
theorem lnW_FR {L : List Nat} : ∀ {Fd : List (List Nat)}, (∀ a ∈ Fd.flatten, a < L.length) → FR L Fd (lnW 1 L [] Fd) := by
  intro Fd h
  rw [lnW_eq, List.nil_append]
  induction Fd with
  | nil => exact .refl
  | cons x Fd ih =>
    have ih := ih fun a ha => h a (by rw [List.flatten_cons]; exact List.mem_append_right _ ha)
    have hx : ∀ a ∈ x, a < L.length := fun a ha => h a (by rw [List.flatten_cons]; exact List.mem_append_left _ ha)
    rw [List.map_cons]
    cases e : lvW L x with
    | true =>
      have hw := lw_WR hx e
      have hne : lw L x ≠ [] := fun r => by have := hw.lv.2; rw [r] at this; cases this
      rw [List.filter_cons_of_pos (by simp [hne])]
      exact .cons hw ih
    | false =>
      rw [List.filter_cons_of_neg (by rw [lw_dead hx e]; simp)]
      unfold FR
      rw [List.filter_cons_of_neg (by rw [e]; simp)]
      exact ih
theorem cMv_mov {L : List Nat} {X : List (List Nat)} (h : cMv L X.flatten = false) (hl : ∀ a ∈ X.flatten, a < L.length) : mov L X = false := by
  cases e : mov L X with
  | false => rfl
  | true =>
    obtain ⟨a, b, h1, h2, h3, h4, h5⟩ := mov_iff.mp e
    unfold cMv at h
    rw [List.any_eq_false] at h
    have ka := h a h1
    have kb := h b h2
    simp only [Bool.or_eq_true, decide_eq_true_eq, not_or, Decidable.not_not] at ka kb
    rw [getD_10 (hl a h1)] at h5
    have : a = b := Option.some.inj (ka.2.trans kb.2.symm)
    rcases h5 with h5 | h5
    · exact absurd this h5
    · exact absurd h5 ka.1
theorem lnW_mem {L : List Nat} {Fd : List (List Nat)} {x : List Nat} (h : x ∈ lnW 1 L [] Fd) : x ≠ [] ∧ ∃ y ∈ Fd, x = lw L y := by
  rw [lnW_eq, List.nil_append] at h
  obtain ⟨h1, h2⟩ := List.mem_filter.mp h
  obtain ⟨y, h3, rfl⟩ := List.mem_map.mp h1
  exact ⟨fun q => (by rw [q] at h2; cases h2), y, h3, rfl⟩
theorem lnW_sub {L : List Nat} {Fd : List (List Nat)} : (lnW 1 L [] Fd).flatten.Sublist Fd.flatten := by
  rw [lnW_eq, List.nil_append]
  induction Fd with
  | nil => exact List.Sublist.refl _
  | cons x Fd ih =>
    rw [List.map_cons, List.flatten_cons]
    by_cases e : (!(lw L x).isEmpty) = true
    · rw [List.filter_cons_of_pos (p := fun x : List Nat => !x.isEmpty) e, List.flatten_cons]
      exact lw_sub.append ih
    · rw [List.filter_cons_of_neg (p := fun x : List Nat => !x.isEmpty) e]
      exact ih.trans (List.sublist_append_right _ _)
theorem lnP_mem {L : List Nat} {F : List (List (List Nat))} {X : List (List Nat)} (h : X ∈ lnP 1 L [] F) : cMv L X.flatten = true ∧ ∃ Y ∈ F, X = lnW 1 L [] Y := by
  rw [lnP_eq, List.nil_append] at h
  obtain ⟨h1, h2⟩ := List.mem_filter.mp h
  obtain ⟨y, h3, rfl⟩ := List.mem_map.mp h1
  exact ⟨h2, y, h3, rfl⟩
theorem lnP_sub {L : List Nat} {F : List (List (List Nat))} : (lnP 1 L [] F).flatten.flatten.Sublist F.flatten.flatten := by
  rw [lnP_eq, List.nil_append]
  induction F with
  | nil => exact List.Sublist.refl _
  | cons X F ih =>
    rw [List.map_cons, List.flatten_cons, List.flatten_append]
    by_cases e : cMv L (lnW 1 L [] X).flatten = true
    · rw [List.filter_cons_of_pos (p := fun X : List (List Nat) => cMv L X.flatten) e, List.flatten_cons, List.flatten_append]
      exact lnW_sub.append ih
    · rw [List.filter_cons_of_neg (p := fun X : List (List Nat) => cMv L X.flatten) e]
      exact ih.trans (List.sublist_append_right _ _)
theorem lnP_RR {L : List Nat} {F : List (List (List Nat))} (h : ∀ a ∈ F.flatten.flatten, a < L.length) : RR L F (lnP 1 L [] F) := by
  rw [lnP_eq, List.nil_append]
  have hX : ∀ X ∈ F, ∀ a ∈ X.flatten, a < L.length := fun X hX a ha => by
    obtain ⟨x, h1, h2⟩ := List.mem_flatten.mp ha
    exact h a (List.mem_flatten.mpr ⟨x, List.mem_flatten.mpr ⟨X, hX, h1⟩, h2⟩)
  refine (RR_map fun X hx => .inl (lnW_FR (hX X hx))).trans (RR_drop fun Y hY e => ?_)
  obtain ⟨X, hx, rfl⟩ := List.mem_map.mp hY
  exact cMv_mov e fun a ha => hX X hx a (lnW_sub.subset ha)
theorem vld_ln {L : List Nat} {F : List (List (List Nat))} (hv : vld (L, F)) : vld (L, lnP 1 L [] F) := by
  refine ⟨⟨fun a ha => hv.1.1 a (lnP_sub.subset ha), hv.1.2⟩, fun x hx => ?_, fun a ha => ?_⟩
  · obtain ⟨X, hX, hxX⟩ := List.mem_flatten.mp hx
    obtain ⟨-, Y, hY, rfl⟩ := lnP_mem hX
    obtain ⟨h1, y, hy, rfl⟩ := lnW_mem hxX
    refine ⟨h1, fun a ha e => ?_⟩
    have h2 := (hv.2.1 y (List.mem_flatten.mpr ⟨Y, hY, hy⟩)).2 a (lw_sub.subset ha) e
    have h3 := (lw_sub (L := L) (x := y)).length_le
    have h4 : 0 < (lw L y).length := List.length_pos_of_mem ha
    show (lw L y).length = 1
    omega
  · exact Nat.le_trans (lnP_sub.count_le a) (hv.2.2 a ha)
theorem val_ln {L : List Nat} {F : List (List (List Nat))} (hv : vld (L, F)) : val (L, lnP 1 L [] F) = val (L, F) := (val_RR hv (vld_ln hv) rfl (lnP_RR hv.1.1)).symm
/-- what a lean position of the class is -/
def lean (Q : PosT) : Prop := (∀ a ∈ pC Q, Q.1.getD a 0 ≠ 0) ∧ ∀ X ∈ Q.2, cMv Q.1 X.flatten = true
theorem lean_ln {L : List Nat} {F : List (List (List Nat))} : lean (L, lnP 1 L [] F) := by
  refine ⟨fun a ha => ?_, fun X hX => (lnP_mem hX).1⟩
  obtain ⟨x, hx, hax⟩ := List.mem_flatten.mp ha
  obtain ⟨X, hX, hxX⟩ := List.mem_flatten.mp hx
  obtain ⟨-, Y, hY, rfl⟩ := lnP_mem hX
  obtain ⟨h1, y, hy, rfl⟩ := lnW_mem hxX
  exact lw_live a hax
