/-! the moves of a position are moves of its fields, and no others -/
def vld (P : PosT) : Prop := posOK P ∧ lone P ∧ occ P
theorem rnd_cut {L p q : List Nat} {a : Nat} : rnd L (p ++ a :: q) p.length = a :: q ++ (if L.getD a 0 = 3 then [] else p ++ [a]) := by
  unfold rnd
  rw [getD_of (at_mid rfl), List.drop_left]
  have : (p ++ a :: q).take (p.length + 1) = p ++ [a] := by
    rw [show p ++ a :: q = (p ++ [a]) ++ q by simp, List.take_left' (by simp)]
  rw [this]
theorem rnd_NE {L L2 p q : List Nat} {a : Nat} (h : L.getD a 0 = 3 → (p ++ a :: q).length = 1) : NE L2 (rnd L (p ++ a :: q) p.length) (a :: (q ++ p) ++ [a]) := by
  rw [rnd_cut]
  by_cases e : L.getD a 0 = 3
  · have := h e
    rw [List.length_append, List.length_cons] at this
    have hp : p = [] := List.length_eq_zero_iff.mp (by omega)
    have hq : q = [] := List.length_eq_zero_iff.mp (by omega)
    subst hp hq
    rw [if_pos e]
    exact .sym (.dup a)
  · rw [if_neg e]
    have : NE L2 (a :: (q ++ p) ++ [a]) (a :: (q ++ p) ++ [a]) := .rfl _
    simpa using this
theorem arcs {p x y : List Nat} {a b : Nat} : ((p ++ a :: (x ++ b :: y)).drop p.length).take (p.length + 1 + x.length + 1 - p.length) = a :: (x ++ [b]) ∧ (p ++ a :: (x ++ b :: y)).drop (p.length + 1 + x.length) ++ (p ++ a :: (x ++ b :: y)).take (p.length + 1) = b :: (y ++ p ++ [a]) := by
  constructor
  · rw [List.drop_left, show a :: (x ++ b :: y) = (a :: (x ++ [b])) ++ y by simp, List.take_left' (by simp; omega)]
  · have h1 : (p ++ a :: (x ++ b :: y)).drop (p.length + 1 + x.length) = b :: y := by
      rw [show p ++ a :: (x ++ b :: y) = (p ++ a :: x) ++ b :: y by simp, List.drop_left' (by simp; omega)]
    have h2 : (p ++ a :: (x ++ b :: y)).take (p.length + 1) = p ++ [a] := by
      rw [show p ++ a :: (x ++ b :: y) = (p ++ [a]) ++ (x ++ b :: y) by simp, List.take_left' (by simp)]
    rw [h1, h2]
    simp
theorem idx2 {X : List Nat} {i j a b : Nat} (hi : X[i]? = some a) (hj : X[j]? = some b) (h : i < j) : ∃ p x y, X = p ++ a :: (x ++ b :: y) ∧ p.length = i ∧ p.length + 1 + x.length = j := by
  obtain ⟨p, q, rfl, hp⟩ := split_at hi
  have : q[j - i - 1]? = some b := by
    rw [List.getElem?_append_right (by omega), hp, show j - i = (j - i - 1) + 1 by omega, List.getElem?_cons_succ] at hj
    exact hj
  obtain ⟨x, y, rfl, hx⟩ := split_at this
  exact ⟨p, x, y, rfl, hp, by omega⟩
theorem occ2 {P : PosT} (ho : occ P) {a : Nat} (h : 2 ≤ P.1.getD a 0) (h3 : P.1.getD a 0 ≤ 3) : (pC P).count a ≤ 1 := by
  have hl : a < P.1.length := Nat.lt_of_not_le fun q => by rw [getD_out q] at h; omega
  have := ho a hl
  split at this <;> omega
theorem cnt_mem {a : Nat} {p q : List Nat} : 1 ≤ (p ++ a :: q).count a := by
  rw [List.count_append, List.count_cons_self]
  omega
theorem mv_sound {P : PosT} {f u i v j s : Nat} (hL : legal P f u i v j s) (hv : vld P) : ∃ F O a b Fs, P.2.Perm (F :: O) ∧ cM P.1 a b = true ∧ a ∈ F.flatten ∧ b ∈ F.flatten ∧ (doMv P f u i v j s).1 = lvA P.1 a b ∧ fdm P.1.length a b F Fs ∧ RR (lvA P.1 a b) (doMv P f u i v j s).2 (Fs ++ O) := by
  obtain ⟨hok, hlo, ho⟩ := hv
  obtain ⟨G1, G2, a, b, hf, hcm, ⟨X1, X2, X3, x, y, hP, hu, hvv, hi, hj⟩ | ⟨X1, X2, x, hvv, hP, hu, hi, hj, hij, hs⟩⟩ := legal_split hL
  · obtain ⟨c1, c2, c3⟩ := cM_ab hcm
    have hD := doMv_m (s := s) hP hf hu hvv hi hj
    obtain ⟨p, q, rfl, rfl⟩ := split_at hi
    obtain ⟨p2, q2, rfl, rfl⟩ := split_at hj
    have hab : a ≠ b := by
      rintro rfl
      have h1 := occ2 ho (c1 rfl) (posOK_le hok a)
      have h2 : 2 ≤ (pC P).count a := by
        unfold pC pW
        rw [hP]
        simp only [List.flatten_append, List.flatten_cons, List.count_append, List.count_cons_self]
        omega
      omega
    have hw1 := hlo (p ++ a :: q) (by unfold pW; rw [hP]; simp)
    have hw2 := hlo (p2 ++ b :: q2) (by unfold pW; rw [hP]; simp)
    refine ⟨X1 ++ (p ++ a :: q) :: (X2 ++ (p2 ++ b :: q2) :: X3), G1 ++ G2, a, b, _, by rw [hP]; exact List.perm_middle, hcm, by simp, by simp, by rw [hD], Or.inl ⟨p ++ a :: q, p2 ++ b :: q2, X1 ++ (X2 ++ X3), p, q, p2, q2, hab, ?_, rfl, rfl, rfl⟩, ?_⟩
    · refine List.perm_middle.trans (List.Perm.cons _ ?_)
      rw [← List.append_assoc, ← List.append_assoc]
      exact List.perm_middle
    · rw [hD]
      refine RR.trans (.perm List.perm_middle) (.cons (.inl ((FR.perm List.perm_middle).trans (.cons ?_ .refl))) .refl)
      have e1 := rnd_NE (L := P.1) (L2 := lvA P.1 a b) (p := p) (q := q) (a := a) fun e => hw1.2 a (by simp) e
      have e2 := rnd_NE (L := P.1) (L2 := lvA P.1 a b) (p := p2) (q := q2) (a := b) fun e => hw2.2 b (by simp) e
      have := WR.endc (lvA_c (L := P.1) (a := a) (b := b)) (NE.app e1 (NE.app (.rfl [P.1.length]) e2))
      unfold crW
      simpa using this
  · obtain ⟨c1, c2, c3⟩ := cM_ab hcm
    subst hvv
    have hD := doMv_s (s := s) hP hf hu hi hj
    have hw1 := hlo x (by unfold pW; rw [hP]; simp)
    have hpk := pk_perm (X1 ++ X2) s
    have hax : a ∈ x := List.mem_of_getElem? hi
    have hbx : b ∈ x := List.mem_of_getElem? hj
    have hDP : ∀ A B : List (List Nat), (G1 ++ A :: G2 ++ [B]).Perm (A :: B :: (G1 ++ G2)) := fun A B => by
      rw [List.append_assoc, List.cons_append]
      refine List.perm_middle.trans (List.Perm.cons _ ?_)
      rw [← List.append_assoc]
      exact List.perm_append_comm
    by_cases e : i = j
    · subst e
      have hab : a = b := Option.some.inj (hi.symm.trans hj)
      subst hab
      obtain ⟨p, q, rfl, rfl⟩ := split_at hi
      refine ⟨X1 ++ (p ++ a :: q) :: X2, G1 ++ G2, a, a, _, by rw [hP]; exact List.perm_middle, hcm, by simp, by simp, by rw [hD], Or.inr (Or.inr ⟨p ++ a :: q, X1 ++ X2, pk 0 s (X1 ++ X2), pk 1 s (X1 ++ X2), p, q, rfl, List.perm_middle, rfl, hpk.symm, rfl⟩), ?_⟩
      rw [hD, if_pos rfl]
      have e1 := rnd_NE (L := P.1) (L2 := lvA P.1 a a) (p := p) (q := q) (a := a) fun e => hw1.2 a (by simp) e
      refine RR.trans (.perm (hDP _ _)) (.cons (.inl (.cons ?_ .refl)) (.cons (.inl (.cons ?_ .refl)) .refl))
      · rw [List.drop_left, show p.length + 1 - p.length = 1 by omega]
        exact .endc lvA_c (.rfl _)
      · exact .endc lvA_c (by simpa using e1)
    · obtain ⟨p, x1, y1, rfl, rfl, hj2⟩ := idx2 hi hj (by omega)
      have hab : a ≠ b := by
        rintro rfl
        have h1 := occ2 ho (c1 rfl) (posOK_le hok a)
        have h2 : 2 ≤ (pC P).count a := by
          unfold pC pW
          rw [hP]
          simp only [List.flatten_append, List.flatten_cons, List.count_append, List.count_cons_self]
          omega
        omega
      obtain ⟨ar1, ar2⟩ := arcs (p := p) (x := x1) (y := y1) (a := a) (b := b)
      rw [hj2] at ar1 ar2
      refine ⟨X1 ++ (p ++ a :: (x1 ++ b :: y1)) :: X2, G1 ++ G2, a, b, _, by rw [hP]; exact List.perm_middle, hcm, by simp, by simp, by rw [hD], Or.inr (Or.inl ⟨p ++ a :: (x1 ++ b :: y1), X1 ++ X2, pk 0 s (X1 ++ X2), pk 1 s (X1 ++ X2), p, x1 ++ b :: y1, x1, y1 ++ p, hab, List.perm_middle, rfl, by simp, hpk.symm, rfl⟩), ?_⟩
      rw [hD, if_neg e, ar1, ar2]
      exact .perm (hDP _ _)
theorem legal_m {P : PosT} {i j a b : Nat} {G1 G2 : List (List (List Nat))} {X1 X2 X3 : List (List Nat)} {x y : List Nat} (hP : P.2 = G1 ++ (X1 ++ x :: (X2 ++ y :: X3)) :: G2) (hi : x[i]? = some a) (hj : y[j]? = some b) (hc : cM P.1 a b = true) : legal P G1.length X1.length i (X1.length + 1 + X2.length) j 0 := by
  have h1 : P.2[G1.length]? = some (X1 ++ x :: (X2 ++ y :: X3)) := by rw [hP]; exact at_mid rfl
  have h2 : (X1 ++ x :: (X2 ++ y :: X3))[X1.length]? = some x := at_mid rfl
  have h3 : (X1 ++ x :: (X2 ++ y :: X3))[X1.length + 1 + X2.length]? = some y := by
    have : X1 ++ x :: (X2 ++ y :: X3) = (X1 ++ x :: X2) ++ y :: X3 := by simp
    rw [this]
    exact at_mid (by simp; omega)
  refine ⟨?_, by omega, by omega, ?_, ?_⟩
  · unfold isTh fl wl
    simp only
    rw [getD_of h1, getD_of h2, getD_of h3]
    exact decide_eq_true ⟨lt_some h1, lt_some h2, lt_some hi, lt_some h3, lt_some hj⟩
  · unfold canT
    simp only
    rw [getD_of h1, getD_of h2, getD_of h3, getD_of hi, getD_of hj]
    exact hc
  · unfold sidesP
    simp only
    rw [if_neg (by omega)]
    exact Nat.one_pos
theorem legal_s {P : PosT} {i j a b s : Nat} {G1 G2 : List (List (List Nat))} {X1 X2 : List (List Nat)} {x : List Nat} (hP : P.2 = G1 ++ (X1 ++ x :: X2) :: G2) (hi : x[i]? = some a) (hj : x[j]? = some b) (hc : cM P.1 a b = true) (hij : i ≤ j) (hs : s < 2 ^ (X1 ++ X2).length) : legal P G1.length X1.length i X1.length j s := by
  have h1 : P.2[G1.length]? = some (X1 ++ x :: X2) := by rw [hP]; exact at_mid rfl
  have h2 : (X1 ++ x :: X2)[X1.length]? = some x := at_mid rfl
  refine ⟨?_, by omega, fun _ => hij, ?_, ?_⟩
  · unfold isTh fl wl
    simp only
    rw [getD_of h1, getD_of h2]
    exact decide_eq_true ⟨lt_some h1, lt_some h2, lt_some hi, lt_some h2, lt_some hj⟩
  · unfold canT
    simp only
    rw [getD_of h1, getD_of h2, getD_of hi, getD_of hj]
    exact hc
  · have e2 : sidesP P (G1.length, X1.length, i, X1.length, j) = 2 ^ (fl P G1.length - 1) := if_pos rfl
    rw [e2]
    have e3 : fl P G1.length - 1 = (X1 ++ X2).length := by
      unfold fl
      rw [getD_of h1]
      simp
    rw [e3]
    exact hs
theorem cut_app2 {α : Type} {a : α} {x y p q : List α} (h : x ++ y = p ++ a :: q) : (∃ q1, x = p ++ a :: q1 ∧ q = q1 ++ y) ∨ (∃ p1, y = p1 ++ a :: q ∧ p = x ++ p1) := by
  rcases List.append_eq_append_iff.mp h with ⟨s, h1, h2⟩ | ⟨s, h1, h2⟩
  · exact Or.inr ⟨s, h2, h1⟩
  · cases s with
    | nil => exact Or.inr ⟨[], by simpa using h2.symm, by simpa using h1.symm⟩
    | cons b s =>
      rw [List.cons_append] at h2
      injection h2 with h3 h4
      subst h3
      exact Or.inl ⟨s, h1, h4⟩
theorem perm_take {α : Type} {l t : List α} {x : α} (h : l.Perm (x :: t)) : ∃ l1 l2, l = l1 ++ x :: l2 ∧ t.Perm (l1 ++ l2) := by
  obtain ⟨l1, l2, rfl⟩ := List.append_of_mem (h.symm.subset (List.mem_cons_self ..))
  exact ⟨l1, l2, rfl, (h.symm.trans List.perm_middle).cons_inv⟩
theorem mv_whole {P : PosT} {F : List (List Nat)} {O Fs : List (List (List Nat))} {a b : Nat} (hP : P.2.Perm (F :: O)) (hlo : lone P) (hcm : cM P.1 a b = true) (k : fdm P.1.length a b F Fs) : ∃ f u i v j s, legal P f u i v j s ∧ (doMv P f u i v j s).1 = lvA P.1 a b ∧ RR (lvA P.1 a b) (doMv P f u i v j s).2 (Fs ++ O) := by
  obtain ⟨G1, G2, hP2, hO⟩ := perm_take hP
  have hDP : ∀ A B : List (List Nat), (G1 ++ A :: G2 ++ [B]).Perm (A :: B :: O) := fun A B => by
    rw [List.append_assoc, List.cons_append]
    refine List.perm_middle.trans (List.Perm.cons _ ?_)
    rw [← List.append_assoc]
    exact List.perm_append_comm.trans (hO.symm.cons _)
  have hDO : ∀ A : List (List Nat), (G1 ++ A :: G2).Perm (A :: O) := fun A => List.perm_middle.trans (hO.symm.cons _)
  rcases k with ⟨X, Y, R, p, q, p2, q2, hab, hF, rfl, rfl, rfl⟩ | ⟨X, R, R1, R2, p, q, x, y, hab, hF, rfl, he, hR, rfl⟩ | ⟨X, R, R1, R2, p, q, hab, hF, rfl, hR, rfl⟩
  · obtain ⟨X1, X2, hF2, hR⟩ := perm_take hF
    obtain ⟨Z1, Z2, hZ, hR2⟩ := perm_take hR.symm
    rcases cut_app2 hZ with ⟨q1, h1, h2⟩ | ⟨p1, h1, h2⟩
    · have hP3 : P.2 = G1 ++ (Z1 ++ (p2 ++ b :: q2) :: (q1 ++ (p ++ a :: q) :: X2)) :: G2 := by rw [hP2, hF2, h1]; simp
      have hD := doMv_m (s := 0) (v := Z1.length + 1 + q1.length) hP3 rfl rfl rfl (at_mid rfl) (at_mid rfl)
      refine ⟨_, _, _, _, _, _, legal_m hP3 (at_mid rfl) (at_mid rfl) (cM_comm hcm), by rw [hD, lvA_comm], ?_⟩
      rw [hD]
      have hw1 := hlo (p ++ a :: q) (by unfold pW; rw [hP3]; simp)
      have hw2 := hlo (p2 ++ b :: q2) (by unfold pW; rw [hP3]; simp)
      have e1 := rnd_NE (L := P.1) (L2 := lvA P.1 a b) (p := p) (q := q) (a := a) fun e => hw1.2 a (by simp) e
      have e2 := rnd_NE (L := P.1) (L2 := lvA P.1 a b) (p := p2) (q := q2) (a := b) fun e => hw2.2 b (by simp) e
      refine RR.trans (.perm (hDO _)) (.cons (.inl ?_) .refl)
      have hRp : (Z1 ++ (q1 ++ X2)).Perm R := by rw [← h2]; exact hR2.symm
      refine (FR.perm (List.perm_middle.trans (hRp.cons _))).trans (.cons (WR.trans ?_ (.crs lvA_c)) .refl)
      have := WR.endc (lvA_c (L := P.1) (a := a) (b := b)) (NE.app e2 (NE.app (.rfl [P.1.length]) e1))
      unfold crW
      simpa using this
    · have hP3 : P.2 = G1 ++ (X1 ++ (p ++ a :: q) :: (p1 ++ (p2 ++ b :: q2) :: Z2)) :: G2 := by rw [hP2, hF2, h1]
      have hD := doMv_m (s := 0) (v := X1.length + 1 + p1.length) hP3 rfl rfl rfl (at_mid rfl) (at_mid rfl)
      refine ⟨_, _, _, _, _, _, legal_m hP3 (at_mid rfl) (at_mid rfl) hcm, by rw [hD], ?_⟩
      rw [hD]
      have hw1 := hlo (p ++ a :: q) (by unfold pW; rw [hP3]; simp)
      have hw2 := hlo (p2 ++ b :: q2) (by unfold pW; rw [hP3]; simp)
      have e1 := rnd_NE (L := P.1) (L2 := lvA P.1 a b) (p := p) (q := q) (a := a) fun e => hw1.2 a (by simp) e
      have e2 := rnd_NE (L := P.1) (L2 := lvA P.1 a b) (p := p2) (q := q2) (a := b) fun e => hw2.2 b (by simp) e
      refine RR.trans (.perm (hDO _)) (.cons (.inl ?_) .refl)
      have hRp : (X1 ++ (p1 ++ Z2)).Perm R := by rw [← List.append_assoc, ← h2]; exact hR2.symm
      refine (FR.perm (List.perm_middle.trans (hRp.cons _))).trans (.cons ?_ .refl)
      have := WR.endc (lvA_c (L := P.1) (a := a) (b := b)) (NE.app e1 (NE.app (.rfl [P.1.length]) e2))
      unfold crW
      simpa using this
  · obtain ⟨X1, X2, hF2, hR3⟩ := perm_take hF
    have hP3 : P.2 = G1 ++ (X1 ++ (p ++ a :: q) :: X2) :: G2 := by rw [hP2, hF2]
    rcases cut_app he with ⟨q1, h1, h2⟩ | ⟨p1, h1, h2⟩
    · subst h1 h2
      obtain ⟨s, hs, k1, k2⟩ := pk_ex (X1 ++ X2) R1 R2 (hR3.symm.trans hR)
      have hi : (p ++ a :: (x ++ b :: q1))[p.length]? = some a := at_mid rfl
      have hj : (p ++ a :: (x ++ b :: q1))[p.length + 1 + x.length]? = some b := by
        rw [show p ++ a :: (x ++ b :: q1) = (p ++ a :: x) ++ b :: q1 by simp]
        exact at_mid (by simp; omega)
      have hD := doMv_s (s := s) hP3 rfl rfl hi hj
      refine ⟨_, _, _, _, _, _, legal_s hP3 hi hj hcm (by omega) hs, by rw [hD], ?_⟩
      obtain ⟨ar1, ar2⟩ := arcs (p := p) (x := x) (y := q1) (a := a) (b := b)
      rw [hD, if_neg (by omega), ar1, ar2]
      exact RR.trans (.perm (hDP _ _)) (.cons (.inl (.perm (k1.cons _))) (.cons (.inl (.perm (k2.cons _))) .refl))
    · subst h1 h2
      obtain ⟨s, hs, k1, k2⟩ := pk_ex (X1 ++ X2) R2 R1 ((hR3.symm.trans hR).trans List.perm_append_comm)
      have hP4 : P.2 = G1 ++ (X1 ++ (p1 ++ b :: (y ++ a :: q)) :: X2) :: G2 := by rw [hP3]; simp
      have hi : (p1 ++ b :: (y ++ a :: q))[p1.length]? = some b := at_mid rfl
      have hj : (p1 ++ b :: (y ++ a :: q))[p1.length + 1 + y.length]? = some a := by
        rw [show p1 ++ b :: (y ++ a :: q) = (p1 ++ b :: y) ++ a :: q by simp]
        exact at_mid (by simp; omega)
      have hD := doMv_s (s := s) hP4 rfl rfl hi hj
      refine ⟨_, _, _, _, _, _, legal_s hP4 hi hj (cM_comm hcm) (by omega) hs, by rw [hD, lvA_comm], ?_⟩
      obtain ⟨ar1, ar2⟩ := arcs (p := p1) (x := y) (y := q) (a := b) (b := a)
      rw [hD, if_neg (by omega), ar1, ar2]
      refine RR.trans (.perm ((hDP _ _).trans (List.Perm.swap _ _ _))) (.cons (.inl (.perm (k2.cons _))) (.cons (.inl (.perm (k1.cons _))) .refl))
  · obtain ⟨X1, X2, hF2, hR3⟩ := perm_take hF
    subst hab
    have hP3 : P.2 = G1 ++ (X1 ++ (p ++ a :: q) :: X2) :: G2 := by rw [hP2, hF2]
    obtain ⟨s, hs, k1, k2⟩ := pk_ex (X1 ++ X2) R1 R2 (hR3.symm.trans hR)
    have hi : (p ++ a :: q)[p.length]? = some a := at_mid rfl
    have hD := doMv_s (s := s) hP3 rfl rfl hi hi
    refine ⟨_, _, _, _, _, _, legal_s hP3 hi hi hcm (by omega) hs, by rw [hD], ?_⟩
    have hw1 := hlo (p ++ a :: q) (by unfold pW; rw [hP3]; simp)
    have e1 := rnd_NE (L := P.1) (L2 := lvA P.1 a a) (p := p) (q := q) (a := a) fun e => hw1.2 a (by simp) e
    rw [hD, if_pos rfl]
    refine RR.trans (.perm (hDP _ _)) (.cons (.inl ((FR.perm (k1.cons _)).trans (.cons ?_ .refl))) (.cons (.inl ((FR.perm (k2.cons _)).trans (.cons ?_ .refl))) .refl))
    · rw [List.drop_left, show p.length + 1 - p.length = 1 by omega]
      exact .endc lvA_c (.rfl _)
    · exact .endc lvA_c (by simpa using e1)
