/-! fields and positions up to what no move sees -/
def lvW (L : List Nat) (X : List Nat) : Bool := X.any (fun a => decide (1 ≤ L.getD a 1))
theorem lvW_iff {L X : List Nat} : lvW L X = true ↔ ∃ a, a ∈ X ∧ lvd L a := by
  unfold lvW lvd
  rw [List.any_eq_true]
  simp
/-- can there be a move in the field -/
def mov (L : List Nat) (F : List (List Nat)) : Bool := F.flatten.any (fun a => decide (1 ≤ L.getD a 1) && (decide (2 ≤ L.getD a 1) || F.flatten.any (fun b => decide (1 ≤ L.getD b 1) && decide (a ≠ b))))
theorem mov_iff {L : List Nat} {F : List (List Nat)} : mov L F = true ↔ ∃ a b, a ∈ F.flatten ∧ b ∈ F.flatten ∧ lvd L a ∧ lvd L b ∧ (a ≠ b ∨ 2 ≤ L.getD a 1) := by
  unfold mov lvd
  rw [List.any_eq_true]
  constructor
  · rintro ⟨a, h1, h2⟩
    rw [Bool.and_eq_true, decide_eq_true_eq, Bool.or_eq_true, decide_eq_true_eq, List.any_eq_true] at h2
    obtain ⟨h2, h3 | ⟨b, h4, h5⟩⟩ := h2
    · exact ⟨a, a, h1, h1, h2, h2, Or.inr h3⟩
    · rw [Bool.and_eq_true, decide_eq_true_eq, decide_eq_true_eq] at h5
      exact ⟨a, b, h1, h4, h2, h5.1, Or.inl h5.2⟩
  · rintro ⟨a, b, h1, h2, h3, h4, h5⟩
    refine ⟨a, h1, ?_⟩
    rw [Bool.and_eq_true, decide_eq_true_eq, Bool.or_eq_true, decide_eq_true_eq, List.any_eq_true]
    refine ⟨h3, ?_⟩
    rcases h5 with h5 | h5
    · exact Or.inr ⟨b, h2, by rw [Bool.and_eq_true, decide_eq_true_eq, decide_eq_true_eq]; exact ⟨h4, h5⟩⟩
    · exact Or.inl h5
def FR (L : List Nat) (F G : List (List Nat)) : Prop := PR (WR L) (F.filter (lvW L)) (G.filter (lvW L))
def mir (F : List (List Nat)) : List (List Nat) := F.map List.reverse
theorem mir_mir {F : List (List Nat)} : mir (mir F) = F := by
  unfold mir
  rw [List.map_map]
  have : (List.reverse ∘ List.reverse : List Nat → List Nat) = id := by funext x; simp
  rw [this, List.map_id]
theorem mem_mir {F : List (List Nat)} {a : Nat} : a ∈ (mir F).flatten ↔ a ∈ F.flatten := by
  simp only [mir, List.mem_flatten, List.mem_map]
  constructor
  · rintro ⟨l, ⟨k, h1, rfl⟩, h2⟩
    exact ⟨k, h1, List.mem_reverse.mp h2⟩
  · rintro ⟨l, h1, h2⟩
    exact ⟨l.reverse, ⟨l, h1, rfl⟩, List.mem_reverse.mpr h2⟩
theorem lvW_rev {L X : List Nat} : lvW L X.reverse = lvW L X := by unfold lvW; rw [List.any_reverse]
theorem filter_mir {L : List Nat} {F : List (List Nat)} : (mir F).filter (lvW L) = mir (F.filter (lvW L)) := by
  unfold mir
  rw [List.filter_map]
  congr 1
  refine List.filter_congr fun x _ => ?_
  exact lvW_rev
theorem WR.lv {L X Y : List Nat} (h : WR L X Y) : lvW L X = true ∧ lvW L Y = true := by
  obtain ⟨b, s, t, s2, t2, hb, h1, h2, h3⟩ := h
  exact ⟨lvW_iff.mpr ⟨b, by rw [h1]; simp, hb⟩, lvW_iff.mpr ⟨b, by rw [h2]; simp, hb⟩⟩
theorem WR.of_lv {L X : List Nat} (h : lvW L X = true) : WR L X X := by
  obtain ⟨a, h1, h2⟩ := lvW_iff.mp h
  exact .refl h2 h1
theorem FR.refl {L : List Nat} {F : List (List Nat)} : FR L F F := PR_refl fun x hx => .of_lv (List.mem_filter.mp hx).2
theorem FR.perm {L : List Nat} {F G : List (List Nat)} (h : F.Perm G) : FR L F G := PR_perm (h.filter _) fun x hx => .of_lv (List.mem_filter.mp hx).2
theorem FR.symm {L : List Nat} {F G : List (List Nat)} (h : FR L F G) : FR L G F := PR_imp (fun _ _ k => k.symm) (PR_symm h)
theorem FR.trans {L : List Nat} {F G K : List (List Nat)} (h : FR L F G) (k : FR L G K) : FR L F K := PR_trans (r := WR L) (q := WR L) (w := WR L) (fun _ _ _ => WR.trans) h k
theorem FR.mir {L : List Nat} {F G : List (List Nat)} (h : FR L F G) : FR L (mir F) (mir G) := by
  unfold FR
  rw [filter_mir, filter_mir]
  exact PR_map (r := WR L) (q := WR L) (fun _ _ => WR.rev) h
theorem FR.mem {L : List Nat} {F G : List (List Nat)} {a : Nat} (h : FR L F G) (ha : lvd L a) (m : a ∈ F.flatten) : a ∈ G.flatten := by
  obtain ⟨X, h1, h2⟩ := List.mem_flatten.mp m
  have h3 : X ∈ F.filter (lvW L) := List.mem_filter.mpr ⟨h1, lvW_iff.mpr ⟨a, h2, ha⟩⟩
  obtain ⟨l1, l2, e⟩ := List.append_of_mem h3
  obtain ⟨Y, s, h4, h5, h6⟩ := PR_at (t := l1 ++ l2) (by rw [e]; exact List.perm_middle) h
  exact List.mem_flatten.mpr ⟨Y, (List.mem_filter.mp (h4.symm.subset (List.mem_cons_self ..))).1, h5.mem ha h2⟩
theorem FR.mono {L L2 : List Nat} {F G : List (List Nat)} (hL : ∀ a, lvd L2 a → lvd L a) (h : FR L F G) : FR L2 F G := by
  have e : ∀ F : List (List Nat), F.filter (lvW L2) = (F.filter (lvW L)).filter (lvW L2) := fun F => by
    rw [List.filter_filter]
    refine List.filter_congr fun x _ => ?_
    cases h1 : lvW L2 x with
    | false => rfl
    | true =>
      obtain ⟨a, h2, h3⟩ := lvW_iff.mp h1
      rw [lvW_iff.mpr ⟨a, h2, hL a h3⟩]
      rfl
  unfold FR
  rw [e F, e G]
  refine PR_filter (r := WR L) (fun x y h => ?_) (fun x y h hx => ?_) h
  · rw [Bool.eq_iff_iff, lvW_iff, lvW_iff]
    exact ⟨fun ⟨a, h1, h2⟩ => ⟨a, h.mem (hL a h2) h1, h2⟩, fun ⟨a, h1, h2⟩ => ⟨a, h.symm.mem (hL a h2) h1, h2⟩⟩
  · obtain ⟨a, h1, h2⟩ := lvW_iff.mp hx
    exact h.mono hL h2 h1
theorem FR.cons {L : List Nat} {F G : List (List Nat)} {X Y : List Nat} (h : WR L X Y) (k : FR L F G) : FR L (X :: F) (Y :: G) := by
  unfold FR
  rw [List.filter_cons_of_pos h.lv.1, List.filter_cons_of_pos h.lv.2]
  exact PR_cons h k
theorem FR.app {L : List Nat} {F G F2 G2 : List (List Nat)} (h : FR L F G) (k : FR L F2 G2) : FR L (F ++ F2) (G ++ G2) := by
  unfold FR
  rw [List.filter_append, List.filter_append]
  exact PR_app h k
/-- a live wall of one field is one of the other -/
theorem FR.at {L : List Nat} {F G R : List (List Nat)} {X : List Nat} (h : FR L F G) (hF : F.Perm (X :: R)) (hX : lvW L X = true) : ∃ Y S, G.Perm (Y :: S) ∧ WR L X Y ∧ FR L R S := by
  have h1 : (F.filter (lvW L)).Perm (X :: R.filter (lvW L)) := by
    have := hF.filter (lvW L)
    rwa [List.filter_cons_of_pos hX] at this
  obtain ⟨Y, s, h2, h3, h4⟩ := PR_at h1 h
  obtain ⟨S, h5, h6, h7⟩ := perm_sieve h2
  exact ⟨Y, S, h5, h3, PR_right h6.symm h4⟩
theorem filter_dead {L : List Nat} {F : List (List Nat)} (h : ∀ X ∈ F, lvW L X = false) : F.filter (lvW L) = [] := by
  rw [List.filter_eq_nil_iff]
  intro X hX
  rw [h X hX]
  exact Bool.false_ne_true
/-- a row's parts, over the relation -/
theorem FR.split {L : List Nat} {R S R1 R2 : List (List Nat)} (h : FR L R S) (hR : R.Perm (R1 ++ R2)) : ∃ S1 S2, S.Perm (S1 ++ S2) ∧ FR L R1 S1 ∧ FR L R2 S2 := by
  have h1 : PR (WR L) (R1.filter (lvW L) ++ R2.filter (lvW L)) (S.filter (lvW L)) := by
    rw [← List.filter_append]
    exact PR_left (hR.filter _) h
  obtain ⟨m1, m2, h2, h3, h4⟩ := PR_split h1
  have e : (S.filter (lvW L)).Perm (m1 ++ m2) := h2
  have hd : S.Perm (S.filter (lvW L) ++ S.filter (fun x => !lvW L x)) := (List.filter_append_perm (lvW L) S).symm
  have m1l : m1.filter (lvW L) = m1 := List.filter_eq_self.mpr fun x hx => (List.mem_filter.mp (e.symm.subset (List.mem_append_left _ hx))).2
  have m2l : m2.filter (lvW L) = m2 := List.filter_eq_self.mpr fun x hx => (List.mem_filter.mp (e.symm.subset (List.mem_append_right _ hx))).2
  refine ⟨m1, m2 ++ S.filter (fun x => !lvW L x), ?_, ?_, ?_⟩
  · rw [← List.append_assoc]
    exact hd.trans (e.append_right _)
  · unfold FR
    rw [m1l]
    exact h3
  · unfold FR
    rw [List.filter_append, m2l, filter_dead (F := S.filter _) (fun X hX => by have := (List.mem_filter.mp hX).2; simpa using this), List.append_nil]
    exact h4
def FM (L : List Nat) (F G : List (List Nat)) : Prop := FR L F G ∨ FR L F (mir G)
theorem FM.refl {L : List Nat} {F : List (List Nat)} : FM L F F := Or.inl .refl
theorem FM.symm {L : List Nat} {F G : List (List Nat)} (h : FM L F G) : FM L G F := by
  rcases h with h | h
  · exact Or.inl h.symm
  · have := h.symm.mir
    rw [mir_mir] at this
    exact Or.inr this
theorem FM.trans {L : List Nat} {F G K : List (List Nat)} (h : FM L F G) (k : FM L G K) : FM L F K := by
  rcases h with h | h <;> rcases k with k | k
  · exact Or.inl (h.trans k)
  · exact Or.inr (h.trans k)
  · exact Or.inr (h.trans k.mir)
  · have := h.trans k.mir
    rw [mir_mir] at this
    exact Or.inl this
theorem FM.mem {L : List Nat} {F G : List (List Nat)} {a : Nat} (h : FM L F G) (ha : lvd L a) (m : a ∈ F.flatten) : a ∈ G.flatten := by
  rcases h with h | h
  · exact h.mem ha m
  · exact mem_mir.mp (h.mem ha m)
theorem FM.mono {L L2 : List Nat} {F G : List (List Nat)} (hL : ∀ a, lvd L2 a → lvd L a) (h : FM L F G) : FM L2 F G := h.imp (FR.mono hL) (FR.mono hL)
theorem FM.mov1 {L L2 : List Nat} {F G : List (List Nat)} (hL : ∀ a, lvd L2 a → lvd L a) (h : FM L F G) (k : mov L2 F = true) : mov L2 G = true := by
  obtain ⟨a, b, h1, h2, h3, h4, h5⟩ := mov_iff.mp k
  exact mov_iff.mpr ⟨a, b, h.mem (hL _ h3) h1, h.mem (hL _ h4) h2, h3, h4, h5⟩
theorem FM.mov {L L2 : List Nat} {F G : List (List Nat)} (hL : ∀ a, lvd L2 a → lvd L a) (h : FM L F G) : mov L2 F = mov L2 G := by
  rw [Bool.eq_iff_iff]
  exact ⟨h.mov1 hL, h.symm.mov1 hL⟩
/-- positions with the same lives -/
def RR (L : List Nat) (P Q : List (List (List Nat))) : Prop := PR (FM L) (P.filter (mov L)) (Q.filter (mov L))
theorem RR.symm {L : List Nat} {P Q : List (List (List Nat))} (h : RR L P Q) : RR L Q P := PR_imp (fun _ _ k => k.symm) (PR_symm h)
theorem RR.trans {L : List Nat} {P Q K : List (List (List Nat))} (h : RR L P Q) (k : RR L Q K) : RR L P K := PR_trans (r := FM L) (q := FM L) (w := FM L) (fun _ _ _ => FM.trans) h k
theorem RR.refl {L : List Nat} {P : List (List (List Nat))} : RR L P P := PR_refl fun _ _ => .refl
theorem RR.perm {L : List Nat} {P Q : List (List (List Nat))} (h : P.Perm Q) : RR L P Q := PR_perm (h.filter _) fun _ _ => .refl
theorem RR.app {L : List Nat} {P Q P2 Q2 : List (List (List Nat))} (h : RR L P Q) (k : RR L P2 Q2) : RR L (P ++ P2) (Q ++ Q2) := by
  unfold RR
  rw [List.filter_append, List.filter_append]
  exact PR_app h k
theorem RR.one {L : List Nat} {F G : List (List Nat)} (h : FM L F G) : RR L [F] [G] := by
  have e := h.mov (L2 := L) fun _ q => q
  unfold RR
  by_cases c : mov L F = true
  · rw [List.filter_cons_of_pos c, List.filter_cons_of_pos (e ▸ c)]
    exact PR_cons h rfl
  · rw [List.filter_cons_of_neg c, List.filter_cons_of_neg (e ▸ c)]
    rfl
theorem RR.cons {L : List Nat} {F G : List (List Nat)} {P Q : List (List (List Nat))} (h : FM L F G) (k : RR L P Q) : RR L (F :: P) (G :: Q) := RR.app (P := [F]) (Q := [G]) (.one h) k
theorem mov_mono {L L2 : List Nat} {F : List (List Nat)} (hL : ∀ a, L2.getD a 1 ≤ L.getD a 1) (h : mov L2 F = true) : mov L F = true := by
  obtain ⟨a, b, h1, h2, h3, h4, h5⟩ := mov_iff.mp h
  unfold lvd at h3 h4
  have q1 := hL a
  have q2 := hL b
  exact mov_iff.mpr ⟨a, b, h1, h2, by unfold lvd; omega, by unfold lvd; omega, by omega⟩
theorem RR.mono {L L2 : List Nat} {P Q : List (List (List Nat))} (hL : ∀ a, L2.getD a 1 ≤ L.getD a 1) (h : RR L P Q) : RR L2 P Q := by
  have e : ∀ F : List (List (List Nat)), F.filter (mov L2) = (F.filter (mov L)).filter (mov L2) := fun F => by
    rw [List.filter_filter]
    refine List.filter_congr fun x _ => ?_
    cases h1 : mov L2 x with
    | false => rfl
    | true =>
      rw [mov_mono hL h1]
      rfl
  have hl : ∀ a, lvd L2 a → lvd L a := fun a q => by
    have := hL a
    unfold lvd at q ⊢
    omega
  unfold RR
  rw [e P, e Q]
  exact PR_filter (r := FM L) (fun x y h => h.mov hl) (fun x y h _ => h.mono hl) h
theorem RR.at {L : List Nat} {P Q O : List (List (List Nat))} {F : List (List Nat)} (h : RR L P Q) (hP : P.Perm (F :: O)) (hF : mov L F = true) : ∃ G U, Q.Perm (G :: U) ∧ FM L F G ∧ RR L O U := by
  have h1 : (P.filter (mov L)).Perm (F :: O.filter (mov L)) := by
    have := hP.filter (mov L)
    rwa [List.filter_cons_of_pos hF] at this
  obtain ⟨Y, s, h2, h3, h4⟩ := PR_at h1 h
  obtain ⟨S, h5, h6, h7⟩ := perm_sieve h2
  exact ⟨Y, S, h5, h3, PR_right h6.symm h4⟩
