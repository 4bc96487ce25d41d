/-! pieces of the drawing: fields and pieces hang together as a tree -/
def cst {β : Type} (χ : Nat → β) (l : List Nat) : Prop := ∀ a ∈ l, ∀ b ∈ l, χ a = χ b
def tree (F : List (List (List Nat))) : Prop := ∀ X G x R, F.Perm (X :: G) → X.Perm (x :: R) → ∃ χ : Nat → Bool, (∀ Y ∈ G, cst χ Y.flatten) ∧ (∀ a ∈ x, χ a = true) ∧ ∀ w ∈ R, ∀ a ∈ w, χ a = false
theorem perm_cases {α : Type} {A X : α} {G G2 : List α} (h : (A :: G).Perm (X :: G2)) : (X = A ∧ G.Perm G2) ∨ ∃ G3, G.Perm (X :: G3) ∧ G2.Perm (A :: G3) := by
  have hm : X ∈ A :: G := h.symm.subset (List.mem_cons_self ..)
  rcases List.mem_cons.mp hm with r | r
  · subst r
    exact Or.inl ⟨rfl, h.cons_inv⟩
  · obtain ⟨g1, g2, rfl⟩ := List.append_of_mem r
    refine Or.inr ⟨g1 ++ g2, List.perm_middle, ?_⟩
    have h2 : (X :: G2).Perm (X :: (A :: (g1 ++ g2))) := h.symm.trans (((List.perm_middle).cons A).trans (List.Perm.swap ..))
    exact h2.cons_inv
theorem tree_many {F : List (List (List Nat))} (hT : tree F) {Fd : List (List Nat)} {G : List (List (List Nat))} (hF : F.Perm (Fd :: G)) : ∀ (S S2 : List (List Nat)), Fd.Perm (S ++ S2) → ∃ χ : Nat → Bool, (∀ Y ∈ G, cst χ Y.flatten) ∧ (∀ w ∈ S, ∀ a ∈ w, χ a = true) ∧ ∀ w ∈ S2, ∀ a ∈ w, χ a = false
  | [], S2, _ => ⟨fun _ => false, fun _ _ _ _ _ _ => rfl, fun w hw => by (cases hw), fun _ _ _ _ => rfl⟩
  | t :: S, S2, h => by
    obtain ⟨χ1, a1, a2, a3⟩ := hT _ _ _ _ hF h
    obtain ⟨χ2, b1, b2, b3⟩ := tree_many hT hF S (t :: S2) (h.trans List.perm_middle.symm)
    refine ⟨fun a => χ1 a || χ2 a, fun Y hY a ha b hb => ?_, fun w hw a ha => ?_, fun w hw a ha => ?_⟩
    · show (χ1 a || χ2 a) = (χ1 b || χ2 b)
      rw [a1 Y hY a ha b hb, b1 Y hY a ha b hb]
    · show (χ1 a || χ2 a) = true
      rcases List.mem_cons.mp hw with r | r
      · subst r; rw [a2 a ha]; rfl
      · rw [b2 w r a ha, Bool.or_true]
    · show (χ1 a || χ2 a) = false
      rw [a3 w (List.mem_append_right _ hw) a ha, b3 w (List.mem_cons_of_mem _ hw) a ha]
      rfl
/-- a colour for the new spot -/
def colC (χ : Nat → Bool) (c : Nat) (k : Bool) (a : Nat) : Bool := if a = c then k else χ a
theorem colC_eq {χ : Nat → Bool} {c : Nat} {k : Bool} : colC χ c k c = k := if_pos rfl
theorem colC_ne {χ : Nat → Bool} {c a : Nat} {k : Bool} (h : a ≠ c) : colC χ c k a = χ a := if_neg h
theorem cst_col {χ : Nat → Bool} {c : Nat} {k : Bool} {l : List Nat} (h : cst χ l) (hc : c ∉ l) : cst (colC χ c k) l := fun a ha b hb => by
  rw [colC_ne (fun q => hc (by rw [← q]; exact ha)), colC_ne (fun q => hc (by rw [← q]; exact hb))]
  exact h a ha b hb
theorem cst_k {χ : Nat → Bool} {l : List Nat} (h : cst χ l) : ∃ k, ∀ a ∈ l, χ a = k := by
  cases l with
  | nil => exact ⟨true, fun a ha => by cases ha⟩
  | cons x l => exact ⟨χ x, fun a ha => h a ha x (List.mem_cons_self ..)⟩
theorem tree_merge {F F2 : List (List (List Nat))} (hT : tree F) {Fd Fd2 R : List (List Nat)} {G : List (List (List Nat))} {x y W : List Nat} {c : Nat} (hF : F.Perm (Fd :: G)) (hFd : Fd.Perm (x :: y :: R)) (hF2 : F2.Perm (Fd2 :: G)) (hFd2 : Fd2.Perm (W :: R)) (hW : ∀ a ∈ W, a ∈ x ∨ a ∈ y ∨ a = c) (hc : c ∉ F.flatten.flatten) : tree F2 := by
  have hcF : ∀ {Y : List (List Nat)} {w : List Nat}, Y ∈ Fd :: G → w ∈ Y → c ∉ w := fun hY hw q => hc (List.mem_flatten.mpr ⟨_, List.mem_flatten.mpr ⟨_, hF.symm.subset hY, hw⟩, q⟩)
  have hcY : ∀ {Y : List (List Nat)}, Y ∈ Fd :: G → c ∉ Y.flatten := fun hY q => by
    obtain ⟨w, hw, hq⟩ := List.mem_flatten.mp q
    exact hcF hY hw hq
  have hcw : ∀ {w : List Nat}, w ∈ x :: y :: R → c ∉ w := fun hw => hcF (List.mem_cons_self ..) (hFd.symm.subset hw)
  have nec : ∀ {w : List Nat} {a : Nat}, w ∈ x :: y :: R → a ∈ w → a ≠ c := fun hw ha q => hcw hw (by rw [← q]; exact ha)
  intro X G2 x0 R0 h1 h2
  rcases perm_cases (hF2.symm.trans h1) with ⟨rfl, hG⟩ | ⟨G3, hG, hG2⟩
  · rcases perm_cases (hFd2.symm.trans h2) with ⟨rfl, hR⟩ | ⟨R3, hR, hR2⟩
    · obtain ⟨χ, b1, b2, b3⟩ := tree_many hT hF [x, y] R hFd
      refine ⟨colC χ c true, fun Y hY => cst_col (b1 Y (hG.symm.subset hY)) (hcY (List.mem_cons_of_mem _ (hG.symm.subset hY))), fun a ha => ?_, fun w hw a ha => ?_⟩
      · rcases hW a ha with r | r | r
        · rw [colC_ne (nec (List.mem_cons_self ..) r)]; exact b2 x (by simp) a r
        · rw [colC_ne (nec (by simp) r)]; exact b2 y (by simp) a r
        · rw [r]; exact colC_eq
      · have hw := hR.symm.subset hw
        rw [colC_ne (nec (by simp [hw]) ha)]
        exact b3 w hw a ha
    · have hFx : Fd.Perm (x0 :: x :: y :: R3) := hFd.trans ((((hR.cons y).cons x).trans ((List.Perm.swap ..).cons x)).trans (List.Perm.swap ..))
      obtain ⟨χ, b1, b2, b3⟩ := hT Fd G x0 (x :: y :: R3) hF hFx
      have hx0 : x0 ∈ x :: y :: R := hFd.subset (hFx.symm.subset (List.mem_cons_self ..))
      refine ⟨colC χ c false, fun Y hY => cst_col (b1 Y (hG.symm.subset hY)) (hcY (List.mem_cons_of_mem _ (hG.symm.subset hY))), fun a ha => ?_, fun w hw a ha => ?_⟩
      · rw [colC_ne (nec hx0 ha)]; exact b2 a ha
      · rcases List.mem_cons.mp (hR2.subset hw) with q | q
        · subst q
          rcases hW a ha with r | r | r
          · rw [colC_ne (nec (by simp) r)]; exact b3 x (by simp) a r
          · rw [colC_ne (nec (by simp) r)]; exact b3 y (by simp) a r
          · rw [r]; exact colC_eq
        · have hwr : w ∈ R := hR.symm.subset (List.mem_cons_of_mem _ q)
          rw [colC_ne (nec (by simp [hwr]) ha)]
          exact b3 w (by simp [q]) a ha
  · obtain ⟨χ, b1, b2, b3⟩ := hT X (Fd :: G3) x0 R0 (hF.trans ((hG.cons Fd).trans (List.Perm.swap ..))) h2
    obtain ⟨k, hk⟩ := cst_k (b1 Fd (List.mem_cons_self ..))
    have hX : X ∈ Fd :: G := List.mem_cons_of_mem _ (hG.symm.subset (List.mem_cons_self ..))
    refine ⟨colC χ c k, fun Y hY => ?_, fun a ha => ?_, fun w hw a ha => ?_⟩
    · rcases List.mem_cons.mp (hG2.subset hY) with r | r
      · subst r
        have all : ∀ a ∈ Y.flatten, colC χ c k a = k := by
          intro a ha
          obtain ⟨w, hw, ha⟩ := List.mem_flatten.mp ha
          have inF : ∀ w ∈ x :: y :: R, ∀ a ∈ w, colC χ c k a = k := fun w hw a ha => by
            rw [colC_ne (nec hw ha)]
            exact hk a (List.mem_flatten.mpr ⟨w, hFd.symm.subset hw, ha⟩)
          rcases List.mem_cons.mp (hFd2.subset hw) with q | q
          · subst q
            rcases hW a ha with r | r | r
            · exact inF x (by simp) a r
            · exact inF y (by simp) a r
            · rw [r]; exact colC_eq
          · exact inF w (by simp [q]) a ha
        exact fun a ha b hb => (all a ha).trans (all b hb).symm
      · exact cst_col (b1 Y (List.mem_cons_of_mem _ r)) (hcY (List.mem_cons_of_mem _ (hG.symm.subset (List.mem_cons_of_mem _ r))))
    · rw [colC_ne (fun q => hcF hX (h2.symm.subset (List.mem_cons_self ..)) (by rw [← q]; exact ha))]
      exact b2 a ha
    · rw [colC_ne (fun q => hcF hX (h2.symm.subset (List.mem_cons_of_mem _ hw)) (by rw [← q]; exact ha))]
      exact b3 w hw a ha
theorem tree_split {F F2 : List (List (List Nat))} (hT : tree F) {Fd F1 F3 R R1 R2 : List (List Nat)} {G : List (List (List Nat))} {x w1 w2 : List Nat} {c : Nat} (hF : F.Perm (Fd :: G)) (hFd : Fd.Perm (x :: R)) (hF2 : F2.Perm (F1 :: F3 :: G)) (hF1 : F1.Perm (w1 :: R1)) (hF3 : F3.Perm (w2 :: R2)) (hR : R.Perm (R1 ++ R2)) (hw1 : ∀ a ∈ w1, a ∈ x ∨ a = c) (hw2 : ∀ a ∈ w2, a ∈ x ∨ a = c) (hc : c ∉ F.flatten.flatten) : tree F2 := by
  have hcF : ∀ {Y : List (List Nat)} {w : List Nat}, Y ∈ Fd :: G → w ∈ Y → c ∉ w := fun hY hw q => hc (List.mem_flatten.mpr ⟨_, List.mem_flatten.mpr ⟨_, hF.symm.subset hY, hw⟩, q⟩)
  have hcY : ∀ {Y : List (List Nat)}, Y ∈ Fd :: G → c ∉ Y.flatten := fun hY q => by
    obtain ⟨w, hw, hq⟩ := List.mem_flatten.mp q
    exact hcF hY hw hq
  have nec : ∀ {w : List Nat} {a : Nat}, w ∈ x :: R → a ∈ w → a ≠ c := fun hw ha q => hcF (List.mem_cons_self ..) (hFd.symm.subset hw) (by rw [← q]; exact ha)
  -- one of the halves
  have half : ∀ (F1 F3 : List (List Nat)) (R1 R2 : List (List Nat)) (w1 w2 : List Nat), F1.Perm (w1 :: R1) → F3.Perm (w2 :: R2) → R.Perm (R1 ++ R2) → (∀ a ∈ w1, a ∈ x ∨ a = c) → (∀ a ∈ w2, a ∈ x ∨ a = c) → ∀ G2 x0 R0, (F3 :: G).Perm G2 → F1.Perm (x0 :: R0) → ∃ χ : Nat → Bool, (∀ Y ∈ G2, cst χ Y.flatten) ∧ (∀ a ∈ x0, χ a = true) ∧ ∀ w ∈ R0, ∀ a ∈ w, χ a = false := by
    intro F1 F3 R1 R2 w1 w2 hF1 hF3 hR hw1 hw2 G2 x0 R0 hG h2
    have inR1 : ∀ {w}, w ∈ R1 → w ∈ x :: R := fun h => List.mem_cons_of_mem _ (hR.symm.subset (List.mem_append_left _ h))
    have inR2 : ∀ {w}, w ∈ R2 → w ∈ x :: R := fun h => List.mem_cons_of_mem _ (hR.symm.subset (List.mem_append_right _ h))
    have fin : ∀ (χ : Nat → Bool) (k : Bool), (∀ Y ∈ G, cst χ Y.flatten) → (∀ w ∈ x :: R2, ∀ a ∈ w, χ a = k) → ∀ Y ∈ G2, cst (colC χ c k) Y.flatten := by
      intro χ k b1 b2 Y hY
      rcases List.mem_cons.mp (hG.symm.subset hY) with r | r
      · subst r
        have all : ∀ a ∈ Y.flatten, colC χ c k a = k := by
          intro a ha
          obtain ⟨w, hw, ha⟩ := List.mem_flatten.mp ha
          rcases List.mem_cons.mp (hF3.subset hw) with q | q
          · subst q
            rcases hw2 a ha with r | r
            · rw [colC_ne (nec (List.mem_cons_self ..) r)]; exact b2 x (by simp) a r
            · rw [r]; exact colC_eq
          · rw [colC_ne (nec (inR2 q) ha)]; exact b2 w (by simp [q]) a ha
        exact fun a ha b hb => (all a ha).trans (all b hb).symm
      · exact cst_col (b1 Y r) (hcY (List.mem_cons_of_mem _ r))
    rcases perm_cases (hF1.symm.trans h2) with ⟨rfl, hR1⟩ | ⟨R3, hR1, hR0⟩
    · obtain ⟨χ, b1, b2, b3⟩ := tree_many hT hF R1 (x :: R2) (hFd.trans ((hR.cons x).trans List.perm_middle.symm))
      refine ⟨colC (fun a => !χ a) c true, fin _ true (fun Y hY a ha b hb => ?_) (fun w hw a ha => ?_), fun a ha => ?_, fun w hw a ha => ?_⟩
      · show (!χ a) = !χ b
        rw [b1 Y hY a ha b hb]
      · show (!χ a) = true
        rw [b3 w hw a ha]; rfl
      · rcases hw1 a ha with r | r
        · rw [colC_ne (nec (List.mem_cons_self ..) r), b3 x (by simp) a r]; rfl
        · rw [r]; exact colC_eq
      · have hw := hR1.symm.subset hw
        rw [colC_ne (nec (inR1 hw) ha), b2 w hw a ha]; rfl
    · have hFx : Fd.Perm (x0 :: (x :: (R3 ++ R2))) := hFd.trans (((hR.trans (hR1.append_right R2)).cons x).trans (List.Perm.swap ..))
      obtain ⟨χ, b1, b2, b3⟩ := hT Fd G x0 _ hF hFx
      refine ⟨colC χ c false, fin _ false b1 (fun w hw a ha => ?_), fun a ha => ?_, fun w hw a ha => ?_⟩
      · refine b3 w ?_ a ha
        rcases List.mem_cons.mp hw with r | r
        · rw [r]; simp
        · simp [r]
      · rw [colC_ne (nec (inR1 (hR1.symm.subset (List.mem_cons_self ..))) ha)]; exact b2 a ha
      · rcases List.mem_cons.mp (hR0.subset hw) with q | q
        · subst q
          rcases hw1 a ha with r | r
          · rw [colC_ne (nec (List.mem_cons_self ..) r)]; exact b3 x (by simp) a r
          · rw [r]; exact colC_eq
        · rw [colC_ne (nec (inR1 (hR1.symm.subset (List.mem_cons_of_mem _ q))) ha)]
          exact b3 w (by simp [q]) a ha
  intro X G2 x0 R0 h1 h2
  rcases perm_cases (hF2.symm.trans h1) with ⟨rfl, hG⟩ | ⟨G3, hG, hG2⟩
  · exact half _ F3 R1 R2 w1 w2 hF1 hF3 hR hw1 hw2 G2 x0 R0 hG h2
  · rcases perm_cases hG with ⟨rfl, hG5⟩ | ⟨G4, hG4, hG3⟩
    · exact half _ F1 R2 R1 w2 w1 hF3 hF1 (hR.trans List.perm_append_comm) hw2 hw1 G2 x0 R0 ((hG5.cons F1).trans hG2.symm) h2
    · obtain ⟨χ, b1, b2, b3⟩ := hT X (Fd :: G4) x0 R0 (hF.trans ((hG4.cons Fd).trans (List.Perm.swap ..))) h2
      obtain ⟨k, hk⟩ := cst_k (b1 Fd (List.mem_cons_self ..))
      have hX : X ∈ Fd :: G := List.mem_cons_of_mem _ (hG4.symm.subset (List.mem_cons_self ..))
      have inF : ∀ w ∈ x :: R, ∀ a ∈ w, colC χ c k a = k := fun w hw a ha => by
        rw [colC_ne (nec hw ha)]
        exact hk a (List.mem_flatten.mpr ⟨w, hFd.symm.subset hw, ha⟩)
      have hlf : ∀ (F1 : List (List Nat)) (R1 : List (List Nat)) (w1 : List Nat), F1.Perm (w1 :: R1) → (∀ a ∈ w1, a ∈ x ∨ a = c) → (∀ w ∈ R1, w ∈ x :: R) → cst (colC χ c k) F1.flatten := by
        intro F1 R1 w1 hF1 hw1 hR1
        have all : ∀ a ∈ F1.flatten, colC χ c k a = k := by
          intro a ha
          obtain ⟨w, hw, ha⟩ := List.mem_flatten.mp ha
          rcases List.mem_cons.mp (hF1.subset hw) with q | q
          · subst q
            rcases hw1 a ha with r | r
            · exact inF x (by simp) a r
            · rw [r]; exact colC_eq
          · exact inF w (hR1 w q) a ha
        exact fun a ha b hb => (all a ha).trans (all b hb).symm
      refine ⟨colC χ c k, fun Y hY => ?_, fun a ha => ?_, fun w hw a ha => ?_⟩
      · rcases List.mem_cons.mp (hG2.subset hY) with r | r
        · rw [r]
          exact hlf F1 R1 w1 hF1 hw1 (fun w hw => List.mem_cons_of_mem _ (hR.symm.subset (List.mem_append_left _ hw)))
        · rcases List.mem_cons.mp (hG3.subset r) with r | r
          · rw [r]
            exact hlf F3 R2 w2 hF3 hw2 (fun w hw => List.mem_cons_of_mem _ (hR.symm.subset (List.mem_append_right _ hw)))
          · exact cst_col (b1 Y (List.mem_cons_of_mem _ r)) (hcY (List.mem_cons_of_mem _ (hG4.symm.subset (List.mem_cons_of_mem _ r))))
      · rw [colC_ne (fun q => hcF hX (h2.symm.subset (List.mem_cons_self ..)) (by rw [← q]; exact ha))]
        exact b2 a ha
      · rw [colC_ne (fun q => hcF hX (h2.symm.subset (List.mem_cons_of_mem _ hw)) (by rw [← q]; exact ha))]
        exact b3 w hw a ha
theorem perm_mid {α : Type} {G1 G2 : List α} {X : α} : (G1 ++ X :: G2).Perm (X :: (G1 ++ G2)) := List.perm_middle
theorem tree_mv {P : PosT} {f u i v j s : Nat} (hL : legal P f u i v j s) (hok : posOK P) (hT : tree P.2) : tree (doMv P f u i v j s).2 := by
  have hc : P.1.length ∉ P.2.flatten.flatten := fun q => by have := hok.1 _ q; omega
  obtain ⟨G1, G2, a, b, hf, hcm, ⟨X1, X2, X3, x, y, hP, hu, hv, hi, hj⟩ | ⟨X1, X2, x, rfl, hP, hu, hi, hj, hij, hs⟩⟩ := legal_split hL
  · rw [doMv_m (s := s) hP hf hu hv hi hj]
    refine tree_merge hT (c := P.1.length) (x := x) (y := y) (R := X1 ++ (X2 ++ X3)) (G := G1 ++ G2) (Fd := X1 ++ x :: (X2 ++ y :: X3)) (W := rnd P.1 x i ++ [P.1.length] ++ rnd P.1 y j ++ [P.1.length]) (by rw [hP]; exact perm_mid) ?_ perm_mid perm_mid (fun q hq => ?_) hc
    · refine perm_mid.trans (List.Perm.cons x ?_)
      rw [← List.append_assoc, ← List.append_assoc]
      exact perm_mid
    · simp only [List.mem_append, List.mem_singleton] at hq
      rcases hq with ((r | r) | r) | r
      · exact Or.inl (rnd_mem r)
      · exact Or.inr (Or.inr r)
      · exact Or.inr (Or.inl (rnd_mem r))
      · exact Or.inr (Or.inr r)
  · rw [doMv_s (s := s) hP hf hu hi hj]
    refine tree_split hT (c := P.1.length) (x := x) (R := X1 ++ X2) (R1 := pk 0 s (X1 ++ X2)) (R2 := pk 1 s (X1 ++ X2)) (G := G1 ++ G2) (Fd := X1 ++ x :: X2) (F1 := ((x.drop i).take (j + 1 - i) ++ [P.1.length]) :: pk 0 s (X1 ++ X2)) (F3 := ((if i = j then rnd P.1 x i else x.drop j ++ x.take (i + 1)) ++ [P.1.length]) :: pk 1 s (X1 ++ X2)) (w1 := (x.drop i).take (j + 1 - i) ++ [P.1.length]) (w2 := (if i = j then rnd P.1 x i else x.drop j ++ x.take (i + 1)) ++ [P.1.length]) (by rw [hP]; exact perm_mid) perm_mid ?_ (List.Perm.refl _) (List.Perm.refl _) (pk_perm _ _).symm (fun q hq => ?_) (fun q hq => ?_) hc
    · refine (List.perm_append_comm).trans ?_
      refine (List.Perm.cons _ perm_mid).trans (List.Perm.swap ..)
    · rcases List.mem_append.mp hq with r | r
      · exact Or.inl (List.mem_of_mem_drop (List.mem_of_mem_take r))
      · exact Or.inr (by simpa using r)
    · rcases List.mem_append.mp hq with r | r
      · left
        split at r
        · exact rnd_mem r
        · rcases List.mem_append.mp r with r | r
          · exact List.mem_of_mem_drop r
          · exact List.mem_of_mem_take r
      · exact Or.inr (by simpa using r)
theorem tree_start {n : Nat} : tree (start n).2 := by
  intro X G x R h1 h2
  have h1 : [(List.range n).map (fun k => [k])].Perm (X :: G) := h1
  have hl := h1.length_eq
  have hG : G = [] := List.length_eq_zero_iff.mp (by simp only [List.length_cons, List.length_nil] at hl; omega)
  subst hG
  have hX : X = (List.range n).map (fun k => [k]) := by
    have := h1.symm.subset (List.mem_cons_self ..)
    simpa using this
  subst hX
  have hn : (x ++ R.flatten).Nodup := by
    have h3 := fl_perm h2
    rw [fl_single, List.flatten_cons] at h3
    exact h3.nodup_iff.mp List.nodup_range
  refine ⟨fun a => decide (a ∈ x), fun Y hY => (by cases hY), fun a ha => decide_eq_true ha, fun w hw a ha => decide_eq_false fun q => ?_⟩
  have := (List.nodup_append.mp hn).2.2 a q a (List.mem_flatten.mpr ⟨w, hw, ha⟩)
  exact this rfl
/-- walls of one field are of different pieces -/
theorem tree_two {F : List (List (List Nat))} (hT : tree F) {G1 G2 : List (List (List Nat))} {X1 X2 X3 : List (List Nat)} {x y : List Nat} (hP : F = G1 ++ (X1 ++ x :: (X2 ++ y :: X3)) :: G2) : ∃ χ : Nat → Bool, (∀ w ∈ F.flatten, cst χ w) ∧ (∀ a ∈ x, χ a = true) ∧ ∀ a ∈ y, χ a = false := by
  obtain ⟨χ, b1, b2, b3⟩ := hT (X1 ++ x :: (X2 ++ y :: X3)) (G1 ++ G2) x (X1 ++ (X2 ++ y :: X3)) (by rw [hP]; exact perm_mid) perm_mid
  refine ⟨χ, fun w hw => ?_, b2, b3 y (by simp)⟩
  obtain ⟨Y, hY, hw⟩ := List.mem_flatten.mp hw
  have hY2 : Y = X1 ++ x :: (X2 ++ y :: X3) ∨ Y ∈ G1 ++ G2 := by
    rw [hP] at hY
    simp only [List.mem_append, List.mem_cons] at hY ⊢
    rcases hY with r | r | r
    · exact Or.inr (Or.inl r)
    · exact Or.inl r
    · exact Or.inr (Or.inr r)
  rcases hY2 with r | r
  · subst r
    have hw2 : w = x ∨ w ∈ X1 ++ (X2 ++ y :: X3) := by
      simp only [List.mem_append, List.mem_cons] at hw ⊢
      rcases hw with r | r | r
      · exact Or.inr (Or.inl r)
      · exact Or.inl r
      · exact Or.inr (Or.inr r)
    rcases hw2 with r | r
    · subst r
      exact fun a ha b hb => (b2 a ha).trans (b2 b hb).symm
    · exact fun a ha b hb => (b3 w r a ha).trans (b3 w r b hb).symm
  · exact fun a ha b hb => b1 Y r a (List.mem_flatten.mpr ⟨w, hw, ha⟩) b (List.mem_flatten.mpr ⟨w, hw, hb⟩)
