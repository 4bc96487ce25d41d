/-! what a move makes, in lists -/
def pk (which : Nat) : Nat → List (List Nat) → List (List Nat)
  | _, [] => []
  | side, x :: X => if side % 2 = which then x :: pk which (side / 2) X else pk which (side / 2) X
theorem othA_skip {which u : Nat} : ∀ (X : List (List Nat)) (side k bit : Nat), u < k → othA side which u X k bit = pk which (side / 2 ^ bit) X
  | [], side, k, bit, h => rfl
  | x :: X, side, k, bit, h => by
    unfold othA pk
    rw [if_neg (by omega), othA_skip X side (k + 1) (bit + 1) (by omega), Nat.pow_succ, ← Nat.div_div_eq_div_mul]
theorem othA_pk {which : Nat} : ∀ (X1 : List (List Nat)) {x : List Nat} {X2 : List (List Nat)} (side k bit u : Nat), u = k + X1.length → othA side which u (X1 ++ x :: X2) k bit = pk which (side / 2 ^ bit) (X1 ++ X2)
  | [], x, X2, side, k, bit, u, h => by
    simp only [List.nil_append]
    unfold othA
    rw [if_pos (by simp at h; omega), othA_skip X2 side (k + 1) bit (by simp at h; omega)]
  | y :: X1, x, X2, side, k, bit, u, h => by
    simp only [List.cons_append]
    unfold othA pk
    rw [List.length_cons] at h
    rw [if_neg (by omega), othA_pk X1 side (k + 1) (bit + 1) u (by omega), Nat.pow_succ, ← Nat.div_div_eq_div_mul]
theorem pk_perm : ∀ (X : List (List Nat)) (side : Nat), (pk 0 side X ++ pk 1 side X).Perm X
  | [], _ => List.Perm.nil
  | x :: X, side => by
    have ih := pk_perm X (side / 2)
    unfold pk
    by_cases e : side % 2 = 0
    · rw [if_pos e, if_neg (by omega)]
      exact ih.cons x
    · rw [if_neg e, if_pos (by omega)]
      exact (List.perm_middle).trans (ih.cons x)
theorem pk_ex : ∀ (X A B : List (List Nat)), X.Perm (A ++ B) → ∃ side, side < 2 ^ X.length ∧ (pk 0 side X).Perm A ∧ (pk 1 side X).Perm B
  | [], A, B, h => by
    have h1 := h.symm.eq_nil
    obtain ⟨rfl, rfl⟩ := List.append_eq_nil_iff.mp h1
    exact ⟨0, by decide, List.Perm.nil, List.Perm.nil⟩
  | x :: X, A, B, h => by
    have hm : x ∈ A ++ B := h.subset (List.mem_cons_self ..)
    rcases List.mem_append.mp hm with r | r
    · obtain ⟨A1, A2, rfl⟩ := List.append_of_mem r
      have h2 : X.Perm ((A1 ++ A2) ++ B) := by
        have : (x :: X).Perm (x :: ((A1 ++ A2) ++ B)) := h.trans (by rw [List.append_assoc, List.cons_append, List.append_assoc]; exact List.perm_middle)
        exact this.cons_inv
      obtain ⟨s, h3, h4, h5⟩ := pk_ex X _ _ h2
      refine ⟨2 * s, by rw [List.length_cons, Nat.pow_succ]; omega, ?_, ?_⟩
      · unfold pk
        rw [if_pos (by omega), show 2 * s / 2 = s by omega]
        exact (h4.cons x).trans List.perm_middle.symm
      · unfold pk
        rw [if_neg (by omega), show 2 * s / 2 = s by omega]
        exact h5
    · obtain ⟨B1, B2, rfl⟩ := List.append_of_mem r
      have h2 : X.Perm (A ++ (B1 ++ B2)) := by
        have : (x :: X).Perm (x :: (A ++ (B1 ++ B2))) := h.trans (by rw [← List.append_assoc, ← List.append_assoc]; exact List.perm_middle)
        exact this.cons_inv
      obtain ⟨s, h3, h4, h5⟩ := pk_ex X _ _ h2
      refine ⟨2 * s + 1, by rw [List.length_cons, Nat.pow_succ]; omega, ?_, ?_⟩
      · unfold pk
        rw [if_neg (by omega), show (2 * s + 1) / 2 = s by omega]
        exact h4
      · unfold pk
        rw [if_pos (by omega), show (2 * s + 1) / 2 = s by omega]
        exact (h5.cons x).trans List.perm_middle.symm
theorem mrgA_no {u v : Nat} {W : List Nat} : ∀ (X : List (List Nat)) (k : Nat), u < k → v < k → mrgA u v W X k = X
  | [], _, _, _ => rfl
  | x :: X, k, h1, h2 => by
    unfold mrgA
    rw [if_neg (by omega), if_neg (by omega), mrgA_no X (k + 1) (by omega) (by omega)]
theorem mrgA_v {u v : Nat} {W : List Nat} : ∀ (X : List (List Nat)) {y : List Nat} {X3 : List (List Nat)} (k : Nat), u < k → v = k + X.length → mrgA u v W (X ++ y :: X3) k = X ++ X3
  | [], y, X3, k, h1, h2 => by
    simp only [List.nil_append]
    unfold mrgA
    rw [List.length_nil] at h2
    rw [if_neg (by omega), if_pos (by omega), mrgA_no X3 (k + 1) (by omega) (by omega)]
  | x :: X, y, X3, k, h1, h2 => by
    simp only [List.cons_append]
    unfold mrgA
    rw [List.length_cons] at h2
    rw [if_neg (by omega), if_neg (by omega), mrgA_v X (k + 1) (by omega) (by omega)]
theorem mrgA_u {u v : Nat} {W : List Nat} : ∀ (X1 : List (List Nat)) {x : List Nat} {X2 : List (List Nat)} {y : List Nat} {X3 : List (List Nat)} (k : Nat), u = k + X1.length → v = u + 1 + X2.length → mrgA u v W (X1 ++ x :: (X2 ++ y :: X3)) k = X1 ++ W :: (X2 ++ X3)
  | [], x, X2, y, X3, k, h1, h2 => by
    simp only [List.nil_append]
    unfold mrgA
    rw [List.length_nil] at h1
    rw [if_pos (by omega), mrgA_v X2 (k + 1) (by omega) (by omega)]
  | z :: X1, x, X2, y, X3, k, h1, h2 => by
    simp only [List.cons_append]
    unfold mrgA
    rw [List.length_cons] at h1
    rw [if_neg (by omega), if_neg (by omega), mrgA_u X1 (k + 1) (by omega) h2]
theorem split_at {α : Type} {l : List α} {k : Nat} {x : α} (h : l[k]? = some x) : ∃ l1 l2, l = l1 ++ x :: l2 ∧ l1.length = k := by
  obtain ⟨h1, h2⟩ := List.getElem?_eq_some_iff.mp h
  refine ⟨l.take k, l.drop (k + 1), ?_, by rw [List.length_take]; omega⟩
  rw [← drop_cons h, List.take_append_drop]
theorem at_mid {α : Type} {l1 l2 : List α} {x : α} {k : Nat} (h : l1.length = k) : (l1 ++ x :: l2)[k]? = some x := by
  rw [List.getElem?_append_right (by omega), h, Nat.sub_self]
  rfl
theorem set_mid {α : Type} {l1 l2 : List α} {x y : α} {k : Nat} (h : l1.length = k) : (l1 ++ x :: l2).set k y = l1 ++ y :: l2 := by
  rw [List.set_append_right _ _ (by omega), h, Nat.sub_self]
  rfl
/-- the corners of a legal move -/
theorem legal_at {P : PosT} {f u i v j s : Nat} (h : legal P f u i v j s) : ∃ Fd x y a b, P.2[f]? = some Fd ∧ Fd[u]? = some x ∧ Fd[v]? = some y ∧ x[i]? = some a ∧ y[j]? = some b ∧ cM P.1 a b = true := by
  obtain ⟨h1, h2, h3, h4, h5⟩ := h
  obtain ⟨t1, t2, t3, t4, t5⟩ := of_decide_eq_true h1
  exact ⟨P.2.getD f [], (P.2.getD f []).getD u [], (P.2.getD f []).getD v [], _, _, gD t1, gD t2, gD t4, gD t3, gD t5, h4⟩
theorem lvA_len {lv : List Nat} {a b : Nat} : (lvA lv a b).length = lv.length + 1 := by unfold lvA; simp
theorem doMv_1 {P : PosT} {f u i v j s a b : Nat} {Fd : List (List Nat)} {x y : List Nat} (hf : P.2[f]? = some Fd) (hu : Fd[u]? = some x) (hv : Fd[v]? = some y) (hi : x[i]? = some a) (hj : y[j]? = some b) : (doMv P f u i v j s).1 = lvA P.1 a b := by
  unfold doMv
  rw [getD_of hf, getD_of hu, getD_of hv, getD_of hi, getD_of hj]
theorem doMv_m {P : PosT} {f u i v j s a b : Nat} {G1 G2 : List (List (List Nat))} {X1 X2 X3 : List (List Nat)} {x y : List Nat} (hP : P.2 = G1 ++ (X1 ++ x :: (X2 ++ y :: X3)) :: G2) (hf : G1.length = f) (hu : X1.length = u) (hv : v = u + 1 + X2.length) (hi : x[i]? = some a) (hj : y[j]? = some b) : doMv P f u i v j s = (lvA P.1 a b, G1 ++ (X1 ++ (rnd P.1 x i ++ [P.1.length] ++ rnd P.1 y j ++ [P.1.length]) :: (X2 ++ X3)) :: G2) := by
  have h1 : P.2[f]? = some (X1 ++ x :: (X2 ++ y :: X3)) := by rw [hP]; exact at_mid hf
  have h2 : (X1 ++ x :: (X2 ++ y :: X3))[u]? = some x := at_mid hu
  have h3 : (X1 ++ x :: (X2 ++ y :: X3))[v]? = some y := by
    have : X1 ++ x :: (X2 ++ y :: X3) = (X1 ++ x :: X2) ++ y :: X3 := by simp
    rw [this]
    exact at_mid (by simp; omega)
  have e1 := doMv_1 (s := s) h1 h2 h3 hi hj
  have e2 : (doMv P f u i v j s).2 = G1 ++ (X1 ++ (rnd P.1 x i ++ [P.1.length] ++ rnd P.1 y j ++ [P.1.length]) :: (X2 ++ X3)) :: G2 := by
    unfold doMv
    rw [if_neg (by omega), getD_of h1, hP, set_mid hf]
    unfold mrg
    rw [getD_of h2, getD_of h3, mrgA_u X1 0 (by omega) hv]
  rw [← e1, ← e2]
theorem doMv_s {P : PosT} {f u i j s a b : Nat} {G1 G2 : List (List (List Nat))} {X1 X2 : List (List Nat)} {x : List Nat} (hP : P.2 = G1 ++ (X1 ++ x :: X2) :: G2) (hf : G1.length = f) (hu : X1.length = u) (hi : x[i]? = some a) (hj : x[j]? = some b) : doMv P f u i u j s = (lvA P.1 a b, G1 ++ (((x.drop i).take (j + 1 - i) ++ [P.1.length]) :: pk 0 s (X1 ++ X2)) :: G2 ++ [((if i = j then rnd P.1 x i else x.drop j ++ x.take (i + 1)) ++ [P.1.length]) :: pk 1 s (X1 ++ X2)]) := by
  have h1 : P.2[f]? = some (X1 ++ x :: X2) := by rw [hP]; exact at_mid hf
  have h2 : (X1 ++ x :: X2)[u]? = some x := at_mid hu
  have e1 := doMv_1 (s := s) h1 h2 h2 hi hj
  have e2 : (doMv P f u i u j s).2 = G1 ++ (((x.drop i).take (j + 1 - i) ++ [P.1.length]) :: pk 0 s (X1 ++ X2)) :: G2 ++ [((if i = j then rnd P.1 x i else x.drop j ++ x.take (i + 1)) ++ [P.1.length]) :: pk 1 s (X1 ++ X2)] := by
    rw [doMv_halves, getD_of h1]
    unfold half1 half2
    rw [getD_of h2, othA_pk X1 s 0 0 u (by omega), othA_pk X1 s 0 0 u (by omega), Nat.pow_zero, Nat.div_one, hP, set_mid hf]
  rw [← e1, ← e2]
/-- a legal move, told by lists -/
theorem legal_split {P : PosT} {f u i v j s : Nat} (h : legal P f u i v j s) : ∃ G1 G2 a b, G1.length = f ∧ cM P.1 a b = true ∧ ((∃ X1 X2 X3 x y, P.2 = G1 ++ (X1 ++ x :: (X2 ++ y :: X3)) :: G2 ∧ X1.length = u ∧ v = u + 1 + X2.length ∧ x[i]? = some a ∧ y[j]? = some b) ∨ (∃ X1 X2 x, v = u ∧ P.2 = G1 ++ (X1 ++ x :: X2) :: G2 ∧ X1.length = u ∧ x[i]? = some a ∧ x[j]? = some b ∧ i ≤ j ∧ s < 2 ^ (X1 ++ X2).length)) := by
  obtain ⟨Fd, x, y, a, b, h1, h2, h3, h4, h5, h6⟩ := legal_at h
  obtain ⟨-, huv, hij, -, hs⟩ := h
  obtain ⟨G1, G2, hP, hf⟩ := split_at h1
  obtain ⟨X1, X2, hX, hu⟩ := split_at h2
  refine ⟨G1, G2, a, b, hf, h6, ?_⟩
  by_cases e : u = v
  · right
    subst e
    have : x = y := Option.some.inj (h2.symm.trans h3)
    subst this
    refine ⟨X1, X2, x, rfl, by rw [hP, hX], hu, h4, h5, hij rfl, ?_⟩
    have e2 : sidesP P (f, u, i, u, j) = 2 ^ (fl P f - 1) := if_pos rfl
    rw [e2] at hs
    have e3 : fl P f - 1 = (X1 ++ X2).length := by
      unfold fl
      rw [getD_of h1, hX]
      simp
    rw [e3] at hs
    exact hs
  · left
    have h3b : X2[v - u - 1]? = some y := by
      rw [hX, List.getElem?_append_right (by omega), hu, show v - u = (v - u - 1) + 1 by omega, List.getElem?_cons_succ] at h3
      exact h3
    obtain ⟨X2a, X3, hX2, hv⟩ := split_at h3b
    exact ⟨X1, X2a, X3, x, y, by rw [hP, hX, hX2], hu, by omega, h4, h5⟩
