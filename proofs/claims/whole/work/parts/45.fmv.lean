/-! a move of one field, up to what no move sees -/
def crW (a : Nat) (x : List Nat) (b : Nat) (y : List Nat) (c : Nat) : List Nat := (a :: (x ++ [a])) ++ (c :: ((b :: (y ++ [b])) ++ [c]))
def fdm (c a b : Nat) (F : List (List Nat)) (Fs : List (List (List Nat))) : Prop :=
  (∃ X Y R p q p2 q2, a ≠ b ∧ F.Perm (X :: Y :: R) ∧ X = p ++ a :: q ∧ Y = p2 ++ b :: q2 ∧ Fs = [crW a (q ++ p) b (q2 ++ p2) c :: R]) ∨
  (∃ X R R1 R2 p q x y, a ≠ b ∧ F.Perm (X :: R) ∧ X = p ++ a :: q ∧ q ++ p = x ++ b :: y ∧ R.Perm (R1 ++ R2) ∧ Fs = [(a :: (x ++ [b]) ++ [c]) :: R1, (b :: (y ++ [a]) ++ [c]) :: R2]) ∨
  (∃ X R R1 R2 p q, a = b ∧ F.Perm (X :: R) ∧ X = p ++ a :: q ∧ R.Perm (R1 ++ R2) ∧ Fs = [([a] ++ [c]) :: R1, (a :: (q ++ p ++ [a]) ++ [c]) :: R2])
theorem WR.endc {L x y : List Nat} {c : Nat} (hc : lvd L c) (h : NE L x y) : WR L (x ++ [c]) (y ++ [c]) := by
  refine ⟨c, x, [], y, [], hc, rfl, rfl, ?_⟩
  rw [List.nil_append, List.nil_append]
  exact .app (.app (x := [c]) (y := [c]) (.rfl _) h) (.rfl _)
theorem WR.cr {L x y x2 y2 : List Nat} {a b c : Nat} (hc : lvd L c) (h : NE L (a :: x ++ [a]) (a :: x2 ++ [a])) (k : NE L (b :: y ++ [b]) (b :: y2 ++ [b])) : WR L (crW a x b y c) (crW a x2 b y2 c) := by
  have := WR.endc (x := a :: x ++ [a] ++ ([c] ++ (b :: y ++ [b]))) (y := a :: x2 ++ [a] ++ ([c] ++ (b :: y2 ++ [b]))) hc (.app h (.app (.rfl _) k))
  unfold crW
  simpa using this
theorem WR.crs {L x y : List Nat} {a b c : Nat} (hc : lvd L c) : WR L (crW a x b y c) (crW b y a x c) := by
  refine ⟨c, a :: x ++ [a] ++ c :: (b :: y ++ [b]), [], b :: y ++ [b], a :: x ++ [a] ++ [c], hc, by simp [crW], by simp [crW], ?_⟩
  have : NE L (c :: ([] ++ (a :: x ++ [a] ++ c :: (b :: y ++ [b]))) ++ [c]) (c :: ([] ++ (a :: x ++ [a] ++ c :: (b :: y ++ [b]))) ++ [c]) := .rfl _
  simpa using this
theorem FR.at2 {L : List Nat} {F G R : List (List Nat)} {X : List Nat} {a : Nat} (h : FR L F G) (hF : F.Perm (X :: R)) (ha : lvd L a) (m : a ∈ X) : ∃ Y S, G.Perm (Y :: S) ∧ WR L X Y ∧ FR L R S := h.at hF (lvW_iff.mpr ⟨a, m, ha⟩)
/-- a move of one field is one of a field like it -/
theorem fmv_like {L L2 : List Nat} {F G : List (List Nat)} {Fs : List (List (List Nat))} {a b c : Nat} (hL : ∀ a, lvd L2 a → lvd L a) (hc : lvd L2 c) (ha : lvd L a) (hb : lvd L b) (h : FR L F G) (k : fdm c a b F Fs) : ∃ Gs, fdm c a b G Gs ∧ RR L2 Fs Gs := by
  rcases k with ⟨X, Y, R, p, q, p2, q2, hab, hF, hX, hY, rfl⟩ | ⟨X, R, R1, R2, p, q, x, y, hab, hF, hX, he, hR, rfl⟩ | ⟨X, R, R1, R2, p, q, hab, hF, hX, hR, rfl⟩
  · obtain ⟨X', S, h1, h2, h3⟩ := h.at2 hF ha (by rw [hX]; simp)
    obtain ⟨Y', T, h4, h5, h6⟩ := h3.at2 (List.Perm.refl _) hb (by rw [hY]; simp)
    obtain ⟨p3, q3, h7, h8⟩ := h2.cut ha hX
    obtain ⟨p4, q4, h9, h10⟩ := h5.cut hb hY
    refine ⟨_, Or.inl ⟨X', Y', T, p3, q3, p4, q4, hab, h1.trans (h4.cons X'), h7, h9, rfl⟩, .one (.inl (.cons (.cr hc (h8.mono hL) (h10.mono hL)) (h6.mono hL)))⟩
  · obtain ⟨X', S, h1, h2, h3⟩ := h.at2 hF ha (by rw [hX]; simp)
    obtain ⟨p3, q3, x3, y3, h4, h5, h6, h7⟩ := h2.cut2 ha hb hab hX he
    obtain ⟨S1, S2, h8, h9, h10⟩ := h3.split hR
    exact ⟨_, Or.inr (Or.inl ⟨X', S, S1, S2, p3, q3, x3, y3, hab, h1, h4, h5, h8, rfl⟩), .cons (.inl (.cons (.endc hc (h6.mono hL)) (h9.mono hL))) (.one (.inl (.cons (.endc hc (h7.mono hL)) (h10.mono hL))))⟩
  · obtain ⟨X', S, h1, h2, h3⟩ := h.at2 hF ha (by rw [hX]; simp)
    obtain ⟨p3, q3, h4, h5⟩ := h2.cut ha hX
    obtain ⟨S1, S2, h8, h9, h10⟩ := h3.split hR
    refine ⟨_, Or.inr (Or.inr ⟨X', S, S1, S2, p3, q3, hab, h1, h4, h8, rfl⟩), .cons (.inl (.cons (.endc hc (.rfl _)) (h9.mono hL))) (.one (.inl (.cons (.endc hc ?_) (h10.mono hL))))⟩
    have := h5.mono hL
    simpa using this
theorem mir_perm {F R : List (List Nat)} (h : (mir F).Perm R) : F.Perm (mir R) := by
  have := h.map List.reverse
  have e : (mir F).map List.reverse = F := mir_mir
  rw [e] at this
  exact this
theorem WR.turn {L x : List Nat} {c : Nat} (hc : lvd L c) : WR L (x ++ [c]) (c :: x) := ⟨c, x, [], [], x, hc, rfl, rfl, by rw [List.nil_append, List.append_nil]; exact .rfl _⟩
/-- a move of a field's mirror image is one of the field -/
theorem fmv_mir {L2 : List Nat} {F : List (List Nat)} {Fs : List (List (List Nat))} {a b c : Nat} (hc : lvd L2 c) (k : fdm c a b (mir F) Fs) : ∃ Gs, fdm c a b F Gs ∧ RR L2 Fs Gs := by
  rcases k with ⟨X, Y, R, p, q, p2, q2, hab, hF, rfl, rfl, rfl⟩ | ⟨X, R, R1, R2, p, q, x, y, hab, hF, rfl, he, hR, rfl⟩ | ⟨X, R, R1, R2, p, q, hab, hF, rfl, hR, rfl⟩
  · refine ⟨_, Or.inl ⟨_, _, mir R, q.reverse, p.reverse, q2.reverse, p2.reverse, hab, mir_perm hF, by simp, by simp, rfl⟩, .one (.inr ?_)⟩
    have e : mir (crW a (p.reverse ++ q.reverse) b (p2.reverse ++ q2.reverse) c :: mir R) = (crW a (p.reverse ++ q.reverse) b (p2.reverse ++ q2.reverse) c).reverse :: mir (mir R) := rfl
    rw [e, mir_mir]
    refine .cons ?_ .refl
    refine ⟨c, a :: (q ++ p) ++ [a] ++ c :: (b :: (q2 ++ p2) ++ [b]), [], c :: (b :: (q2 ++ p2) ++ [b]), a :: (q ++ p) ++ [a], hc, by simp [crW], by simp [crW], ?_⟩
    have : NE L2 (c :: ([] ++ (a :: (q ++ p) ++ [a] ++ c :: (b :: (q2 ++ p2) ++ [b]))) ++ [c]) (c :: ([] ++ (a :: (q ++ p) ++ [a] ++ c :: (b :: (q2 ++ p2) ++ [b]))) ++ [c]) := .rfl _
    simpa using this
  · have hR2 : (mir R).Perm (mir R2 ++ mir R1) := by
      have := hR.map List.reverse
      rw [List.map_append] at this
      exact this.trans List.perm_append_comm
    refine ⟨_, Or.inr (Or.inl ⟨_, mir R, mir R2, mir R1, q.reverse, p.reverse, y.reverse, x.reverse, hab, mir_perm hF, by simp, ?_, hR2, rfl⟩), ?_⟩
    · rw [← List.reverse_append, he]
      simp
    · refine RR.trans (RR.cons (.inr ?_) (.one (.inr ?_))) (.perm (List.Perm.swap _ _ _))
      · have e : mir ((b :: (x.reverse ++ [a]) ++ [c]) :: mir R1) = (c :: (a :: (x ++ [b]))) :: mir (mir R1) := by simp [mir]
        rw [e, mir_mir]
        exact .cons (.turn hc) .refl
      · have e : mir ((a :: (y.reverse ++ [b]) ++ [c]) :: mir R2) = (c :: (b :: (y ++ [a]))) :: mir (mir R2) := by simp [mir]
        rw [e, mir_mir]
        exact .cons (.turn hc) .refl
  · have hR2 : (mir R).Perm (mir R1 ++ mir R2) := by
      have := hR.map List.reverse
      rw [List.map_append] at this
      exact this
    refine ⟨_, Or.inr (Or.inr ⟨_, mir R, mir R1, mir R2, q.reverse, p.reverse, hab, mir_perm hF, by simp, hR2, rfl⟩), ?_⟩
    refine RR.cons (.inr ?_) (.one (.inr ?_))
    · have e : mir (([a] ++ [c]) :: mir R1) = (c :: [a]) :: mir (mir R1) := by simp [mir]
      rw [e, mir_mir]
      exact .cons (.turn hc) .refl
    · have e : mir ((a :: (p.reverse ++ q.reverse ++ [a]) ++ [c]) :: mir R2) = (c :: (a :: (q ++ p ++ [a]))) :: mir (mir R2) := by simp [mir]
      rw [e, mir_mir]
      exact .cons (.turn hc) .refl
theorem cM_comm {L : List Nat} {a b : Nat} (h : cM L a b = true) : cM L b a = true := by
  obtain ⟨h1, h2, h3⟩ := cM_ab h
  exact cM_of (fun e => by subst e; exact h1 rfl) h3 h2
theorem lvA_comm {L : List Nat} {a b : Nat} : lvA L a b = lvA L b a := by
  unfold lvA
  congr 1
  refine List.ext_getElem? fun k => ?_
  rw [List.getElem?_mapIdx, List.getElem?_mapIdx]
  congr 1
  funext l
  omega
theorem lvA_le1 {L : List Nat} {a b s : Nat} : (lvA L a b).getD s 1 ≤ L.getD s 1 := by
  by_cases h : s < L.length
  · have h1 := lvA_le (lv := L) (a := a) (b := b) h
    rw [List.getD_eq_getElem?_getD, List.getElem?_eq_getElem (by rw [lvA_len]; omega)] at h1 ⊢
    rw [List.getD_eq_getElem?_getD, List.getElem?_eq_getElem h] at h1 ⊢
    exact h1
  · have h2 : L.getD s 1 = 1 := by rw [List.getD_eq_getElem?_getD, List.getElem?_eq_none (by omega)]; rfl
    rw [h2]
    by_cases e : s = L.length
    · have := lvA_new (lv := L) (a := a) (b := b)
      rw [← e, List.getD_eq_getElem?_getD, List.getElem?_eq_getElem (by rw [lvA_len]; omega)] at this
      rw [List.getD_eq_getElem?_getD, List.getElem?_eq_getElem (by rw [lvA_len]; omega)]
      exact Nat.le_of_eq this
    · rw [List.getD_eq_getElem?_getD, List.getElem?_eq_none (by rw [lvA_len]; omega)]
      exact Nat.le_refl _
theorem lvd_0 {L : List Nat} {a : Nat} (h : 1 ≤ L.getD a 0) : lvd L a := by
  unfold lvd
  by_cases q : a < L.length
  · rw [List.getD_eq_getElem?_getD, List.getElem?_eq_getElem q] at h ⊢
    exact h
  · rw [List.getD_eq_getElem?_getD, List.getElem?_eq_none (by omega)]
    exact Nat.le_refl _
theorem lvA_c {L : List Nat} {a b : Nat} : lvd (lvA L a b) L.length := lvd_0 (by rw [lvA_new]; exact Nat.le_refl _)
theorem lvA_lvd {L : List Nat} {a b : Nat} : ∀ s, lvd (lvA L a b) s → lvd L s := fun s h => Nat.le_trans h lvA_le1
