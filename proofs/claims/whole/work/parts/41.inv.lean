/-! what every position of a game keeps -/
def Lv (P : PosT) (a : Nat) : Nat := P.1.getD a 0
def exA (lv : List Nat) (a : Nat) : List Nat := if lv.getD a 0 = 3 then [] else [a]
theorem lvA_get {lv : List Nat} {a b s : Nat} (hs : s < lv.length) : (lvA lv a b).getD s 0 = lv.getD s 0 - (if s = a then 1 else 0) - (if s = b then 1 else 0) := by
  refine getD_of ?_
  unfold lvA
  rw [List.getElem?_append_left (by rw [List.length_mapIdx]; exact hs), List.getElem?_mapIdx, gD (d := 0) hs]
  rfl
theorem lvA_new {lv : List Nat} {a b : Nat} : (lvA lv a b).getD lv.length 0 = 1 := by
  refine getD_of ?_
  unfold lvA
  rw [List.getElem?_append_right (by rw [List.length_mapIdx]; exact Nat.le_refl _), List.length_mapIdx, Nat.sub_self]
  rfl
theorem lvA_le {lv : List Nat} {a b s : Nat} (hs : s < lv.length) : (lvA lv a b).getD s 0 ≤ lv.getD s 0 := by rw [lvA_get hs]; omega
theorem cM_ab {lv : List Nat} {a b : Nat} (h : cM lv a b = true) : (a = b → 2 ≤ lv.getD a 0) ∧ 1 ≤ lv.getD a 0 ∧ 1 ≤ lv.getD b 0 := by
  unfold cM at h
  rw [Bool.and_eq_true, decide_eq_true_eq, decide_eq_true_eq] at h
  obtain ⟨h1, h2⟩ := h
  refine ⟨fun e => ?_, by omega, by omega⟩
  rw [if_pos e] at h1
  omega
theorem cM_of {lv : List Nat} {a b : Nat} (h1 : a = b → 2 ≤ lv.getD a 0) (h2 : 1 ≤ lv.getD a 0) (h3 : 1 ≤ lv.getD b 0) : cM lv a b = true := by
  unfold cM
  rw [Bool.and_eq_true, decide_eq_true_eq, decide_eq_true_eq]
  by_cases e : a = b
  · rw [if_pos e]
    have := h1 e
    omega
  · rw [if_neg e]
    omega
theorem lvA_sum {lv : List Nat} {a b : Nat} (h : cM lv a b = true) : (lvA lv a b).sum + 1 = lv.sum := by
  obtain ⟨h1, h2, h3⟩ := cM_ab h
  have hal : a < lv.length := Nat.lt_of_not_le fun q => by rw [getD_out q] at h2; omega
  have hbl : b < lv.length := Nat.lt_of_not_le fun q => by rw [getD_out q] at h3; omega
  have ha := gD (d := 0) hal
  have hb2 : (lv.set a (lv.getD a 0 - 1))[b]? = some ((lv.set a (lv.getD a 0 - 1)).getD b 0) := gD (by rw [List.length_set]; exact hbl)
  have e := lvA_set ha hb2
  rw [← e, List.sum_append]
  have s1 := sum_set ha h2
  have s2 := sum_set hb2 (by
    by_cases q : a = b
    · subst q
      rw [List.getD_eq_getElem?_getD, List.getElem?_set, if_pos rfl, if_pos hal]
      have := h1 rfl
      simp only [Option.getD_some]
      omega
    · rw [List.getD_eq_getElem?_getD, List.getElem?_set_ne q, ← List.getD_eq_getElem?_getD]
      exact h3)
  simp only [List.sum_cons, List.sum_nil]
  omega
theorem rot_perm {x : List Nat} {i j a : Nat} (hi : x[i]? = some a) : (x.drop i ++ x.take (i + 1)).Perm (x ++ [a]) := by
  have h1 : x.take (i + 1) = x.take i ++ [a] := by rw [List.take_succ, hi]; rfl
  rw [h1, ← List.append_assoc]
  refine List.Perm.append_right _ ?_
  exact List.perm_append_comm.trans (by rw [List.take_append_drop])
theorem rnd_perm {lv x : List Nat} {i a : Nat} (hi : x[i]? = some a) (hl : lv.getD a 0 = 3 → x.length = 1) : (rnd lv x i).Perm (x ++ exA lv a) := by
  unfold rnd exA
  rw [getD_of hi]
  by_cases e : lv.getD a 0 = 3
  · rw [if_pos e, if_pos e]
    have h1 := hl e
    have h2 := lt_some hi
    have : i = 0 := by omega
    subst this
    exact List.Perm.refl _
  · rw [if_neg e, if_neg e]
    exact rot_perm (j := 0) hi
theorem two_perm {x : List Nat} {i j a b : Nat} (hi : x[i]? = some a) (hj : x[j]? = some b) (hij : i < j) : ((x.drop i).take (j + 1 - i) ++ (x.drop j ++ x.take (i + 1))).Perm (x ++ [a, b]) := by
  have h1 : x.take (i + 1) = x.take i ++ [a] := by rw [List.take_succ, hi]; rfl
  have h2 : (x.drop i).take (j + 1 - i) = (x.drop i).take (j - i) ++ [b] := by
    rw [show j + 1 - i = (j - i) + 1 by omega, List.take_succ, List.getElem?_drop, show i + (j - i) = j by omega, hj]
    rfl
  have h3 : x.drop i = (x.drop i).take (j - i) ++ x.drop j := by
    conv => lhs; rw [← List.take_append_drop (j - i) (x.drop i), List.drop_drop, show i + (j - i) = j by omega]
  have h4 : x = x.take i ++ ((x.drop i).take (j - i) ++ x.drop j) := by
    rw [← h3, List.take_append_drop]
  rw [h1, h2]
  generalize (x.drop i).take (j - i) = s at h4 ⊢
  generalize x.drop j = t at h4 ⊢
  generalize x.take i = p at h4 ⊢
  subst h4
  rw [List.perm_iff_count]
  intro q
  simp only [List.count_append, List.count_cons, List.count_nil]
  omega
theorem fl_perm {α : Type} {A B : List (List α)} (h : A.Perm B) : A.flatten.Perm B.flatten := by
  induction h with
  | nil => exact List.Perm.refl _
  | cons x _ ih => rw [List.flatten_cons, List.flatten_cons]; exact ih.append_left _
  | swap x y l => rw [List.flatten_cons, List.flatten_cons, List.flatten_cons, List.flatten_cons, ← List.append_assoc, ← List.append_assoc]; exact List.perm_append_comm.append_right _
  | trans _ _ ih1 ih2 => exact ih1.trans ih2
/-- what comes to the corners -/
theorem mv_corners {P : PosT} {f u i v j s : Nat} (hL : legal P f u i v j s) (hlo : lone P) : ∃ a b E, cM P.1 a b = true ∧ a ∈ pC P ∧ b ∈ pC P ∧ (doMv P f u i v j s).1 = lvA P.1 a b ∧ (pC (doMv P f u i v j s)).Perm (pC P ++ (E ++ [P.1.length, P.1.length])) ∧ ((u ≠ v ∧ E = exA P.1 a ++ exA P.1 b ∧ (a = b → 2 ≤ (pC P).count a)) ∨ (u = v ∧ i < j ∧ E = [a, b] ∧ (a = b → 2 ≤ (pC P).count a) ∧ P.1.getD a 0 ≠ 3 ∧ P.1.getD b 0 ≠ 3) ∨ (u = v ∧ i = j ∧ a = b ∧ E = a :: exA P.1 a)) := by
  obtain ⟨G1, G2, a, b, hf, hc, ⟨X1, X2, X3, x, y, hP, hu, hv, hi, hj⟩ | ⟨X1, X2, x, rfl, hP, hu, hi, hj, hij, hs⟩⟩ := legal_split hL
  · have hxm : x ∈ pW P := by unfold pW; rw [hP]; simp
    have hym : y ∈ pW P := by unfold pW; rw [hP]; simp
    have e := doMv_m (s := s) hP hf hu hv hi hj
    have p1 := rnd_perm (lv := P.1) hi (fun q => (hlo x hxm).2 a (List.mem_of_getElem? hi) q)
    have p2 := rnd_perm (lv := P.1) hj (fun q => (hlo y hym).2 b (List.mem_of_getElem? hj) q)
    refine ⟨a, b, exA P.1 a ++ exA P.1 b, hc, List.mem_flatten.mpr ⟨x, hxm, List.mem_of_getElem? hi⟩, List.mem_flatten.mpr ⟨y, hym, List.mem_of_getElem? hj⟩, by rw [e], ?_, Or.inl ⟨by omega, rfl, ?_⟩⟩
    · rw [e]
      unfold pC pW
      rw [hP, List.perm_iff_count]
      intro q
      have c1 := p1.count_eq q
      have c2 := p2.count_eq q
      simp only [List.flatten_append, List.flatten_cons, List.count_append, List.count_cons, List.count_nil] at c1 c2 ⊢
      omega
    · intro q
      subst q
      have c1 := List.count_pos_iff.mpr (List.mem_of_getElem? hi)
      have c2 := List.count_pos_iff.mpr (List.mem_of_getElem? hj)
      unfold pC pW
      rw [hP]
      simp only [List.flatten_append, List.flatten_cons, List.count_append]
      omega
  · have hxm : x ∈ pW P := by unfold pW; rw [hP]; simp
    have e := doMv_s (s := s) hP hf hu hi hj
    have pp := fl_perm (pk_perm (X1 ++ X2) s)
    refine ⟨a, b, if i = j then a :: exA P.1 a else [a, b], hc, List.mem_flatten.mpr ⟨x, hxm, List.mem_of_getElem? hi⟩, List.mem_flatten.mpr ⟨x, hxm, List.mem_of_getElem? hj⟩, by rw [e], ?_, Or.inr ?_⟩
    · rw [e]
      unfold pC pW
      rw [hP, List.perm_iff_count]
      intro q
      have c1 := pp.count_eq q
      by_cases ej : i = j
      · subst ej
        rw [if_pos rfl, if_pos rfl]
        have p1 := rnd_perm (lv := P.1) hi (fun q => (hlo x hxm).2 a (List.mem_of_getElem? hi) q)
        have c2 := p1.count_eq q
        have e3 : (x.drop i).take (i + 1 - i) = [a] := by rw [drop_cons hi, show i + 1 - i = 0 + 1 by omega, List.take_succ_cons]; rfl
        rw [e3]
        simp only [List.flatten_append, List.flatten_cons, List.flatten_nil, List.append_nil, List.count_append, List.count_cons, List.count_nil] at c1 c2 ⊢
        omega
      · rw [if_neg ej, if_neg ej]
        have p1 := two_perm hi hj (by omega)
        have c2 := p1.count_eq q
        simp only [List.flatten_append, List.flatten_cons, List.flatten_nil, List.append_nil, List.count_append, List.count_cons, List.count_nil] at c1 c2 ⊢
        omega
    · by_cases ej : i = j
      · right
        subst ej
        refine ⟨rfl, rfl, Option.some.inj (hi.symm.trans hj), by rw [if_pos rfl]⟩
      · left
        have hlt := lt_some hj
        have h1 : ∀ q, q ∈ x → P.1.getD q 0 ≠ 3 := fun q hq e3 => by
          have := (hlo x hxm).2 q hq e3
          omega
        refine ⟨rfl, by omega, by rw [if_neg ej], ?_, h1 a (List.mem_of_getElem? hi), h1 b (List.mem_of_getElem? hj)⟩
        intro q
        subst q
        have p1 := two_perm hi hj (by omega)
        obtain ⟨l1, l2, hl, hl1⟩ := split_at hi
        have hj2 : l2[j - i - 1]? = some a := by
          rw [hl, List.getElem?_append_right (by omega), hl1, show j - i = (j - i - 1) + 1 by omega, List.getElem?_cons_succ] at hj
          exact hj
        have c1 := List.count_pos_iff.mpr (List.mem_of_getElem? hj2)
        unfold pC pW
        rw [hP]
        simp only [List.flatten_append, List.flatten_cons, List.count_append]
        rw [hl]
        simp only [List.count_append, List.count_cons_self]
        omega
/-- how often a spot is a corner -/
def occ (P : PosT) : Prop := ∀ a, a < P.1.length → (pC P).count a ≤ (if P.1.getD a 0 = 3 then 1 else 3 - P.1.getD a 0)
theorem exA_count {lv : List Nat} {a q : Nat} : (exA lv a).count q = if q = a ∧ lv.getD a 0 ≠ 3 then 1 else 0 := by
  unfold exA
  by_cases e : lv.getD a 0 = 3
  · rw [if_pos e, if_neg (by intro r; exact r.2 e)]; rfl
  · rw [if_neg e]
    by_cases e2 : q = a
    · rw [if_pos ⟨e2, e⟩, e2]; simp
    · rw [if_neg (fun r => e2 r.1)]
      simp [List.count_cons]
      intro r
      exact e2 r.symm
theorem posOK_le {P : PosT} (h : posOK P) (a : Nat) : P.1.getD a 0 ≤ 3 := by
  by_cases e : a < P.1.length
  · exact h.2 _ (List.mem_of_getElem? (gD e))
  · rw [getD_out (by omega)]; omega
theorem occ_mv {P : PosT} {f u i v j s : Nat} (hL : legal P f u i v j s) (hlo : lone P) (hok : posOK P) (ho : occ P) : occ (doMv P f u i v j s) := by
  obtain ⟨a, b, E, hc, ha, hb, e1, hp, hE⟩ := mv_corners hL hlo
  have hal := hok.1 a ha
  have hbl := hok.1 b hb
  obtain ⟨c1, c2, c3⟩ := cM_ab hc
  intro q hq
  rw [e1, lvA_len] at hq
  have hcnt := hp.count_eq q
  simp only [List.count_append, List.count_cons, List.count_nil] at hcnt
  rw [hcnt, e1]
  by_cases eq : q = P.1.length
  · have h0 : (pC P).count q = 0 := List.count_eq_zero.mpr fun r => by have := hok.1 q r; omega
    have hEz : E.count q = 0 := by
      have qa : ¬ q = a := by omega
      have qb : ¬ q = b := by omega
      rcases hE with ⟨-, rfl, -⟩ | ⟨-, -, rfl, -⟩ | ⟨-, -, -, rfl⟩
      · rw [List.count_append, exA_count, exA_count, if_neg (fun r => qa r.1), if_neg (fun r => qb r.1)]
      · rw [List.count_eq_zero]; simp; omega
      · rw [List.count_cons, exA_count, if_neg (fun r => qa r.1), if_neg (by simp; omega)]
    rw [h0, hEz, eq, lvA_new]
    simp
  · have hql : q < P.1.length := by omega
    have hn : ¬ P.1.length = q := fun r => eq r.symm
    have h1 := ho q hql
    have h3 := posOK_le hok q
    rw [lvA_get hql]
    simp only [beq_iff_eq, hn, if_false]
    rcases hE with ⟨-, rfl, h2⟩ | ⟨-, -, rfl, h2, n1, n2⟩ | ⟨-, -, rfl, rfl⟩
    · rw [List.count_append, exA_count, exA_count]
      by_cases qa : q = a
      · by_cases qb : q = b
        · have := h2 (qa.symm.trans qb)
          have := c1 (qa.symm.trans qb)
          subst qa
          split at h1 <;> omega
        · subst qa
          have hb0 : ¬ (q = b ∧ P.1.getD b 0 ≠ 3) := fun r => qb r.1
          rw [if_neg hb0, if_pos rfl, if_neg qb]
          by_cases e3 : P.1.getD q 0 = 3
          · rw [if_neg (fun r => r.2 e3), e3]
            rw [if_pos e3] at h1
            simp
            omega
          · rw [if_pos ⟨rfl, e3⟩]
            rw [if_neg e3] at h1
            rw [if_neg (by omega)]
            omega
      · have ha0 : ¬ (q = a ∧ P.1.getD a 0 ≠ 3) := fun r => qa r.1
        rw [if_neg ha0, if_neg qa]
        by_cases qb : q = b
        · subst qb
          rw [if_pos rfl]
          by_cases e3 : P.1.getD q 0 = 3
          · rw [if_neg (fun r => r.2 e3), e3]
            rw [if_pos e3] at h1
            simp
            omega
          · rw [if_pos ⟨rfl, e3⟩]
            rw [if_neg e3] at h1
            rw [if_neg (by omega)]
            omega
        · rw [if_neg (fun r => qb r.1), if_neg qb]
          simpa using h1
    · simp only [List.count_cons, List.count_nil, beq_iff_eq]
      have hab : a ≠ b := fun r => by
        have := h2 r
        have := c1 r
        have := ho a hal
        split at this <;> omega
      by_cases qa : q = a
      · have qb : ¬ q = b := fun r => hab (qa.symm.trans r)
        subst qa
        rw [if_neg n1] at h1
        repeat' split
        all_goals omega
      · by_cases qb : q = b
        · subst qb
          rw [if_neg n2] at h1
          repeat' split
          all_goals omega
        · revert h1
          repeat' split
          all_goals omega
    · rw [List.count_cons, exA_count]
      simp only [beq_iff_eq]
      have c1 := c1 rfl
      by_cases qa : q = a
      · subst qa
        by_cases e3 : P.1.getD q 0 = 3
        · rw [if_pos e3] at h1
          repeat' split
          all_goals omega
        · rw [if_neg e3] at h1
          repeat' split
          all_goals omega
      · revert h1
        repeat' split
        all_goals omega
theorem posOK_mv {P : PosT} {f u i v j s : Nat} (hL : legal P f u i v j s) (hlo : lone P) (hok : posOK P) : posOK (doMv P f u i v j s) := by
  obtain ⟨a, b, E, hc, ha, hb, e1, hp, hE⟩ := mv_corners hL hlo
  have hal := hok.1 a ha
  have hbl := hok.1 b hb
  refine ⟨fun q hq => ?_, fun w hw => ?_⟩
  · rw [e1, lvA_len]
    have h1 := hp.subset hq
    rcases List.mem_append.mp h1 with r | r
    · have := hok.1 q r
      omega
    · rcases List.mem_append.mp r with r | r
      · have : q = a ∨ q = b := by
          rcases hE with ⟨-, rfl, -⟩ | ⟨-, -, rfl, -⟩ | ⟨-, -, -, rfl⟩
          · rcases List.mem_append.mp r with r | r
            · unfold exA at r; split at r
              · cases r
              · simp at r; exact Or.inl r
            · unfold exA at r; split at r
              · cases r
              · simp at r; exact Or.inr r
          · simpa using r
          · rcases List.mem_cons.mp r with r | r
            · exact Or.inl r
            · unfold exA at r; split at r
              · cases r
              · simp at r; exact Or.inl r
        omega
      · simp at r
        omega
  · rw [e1] at hw
    obtain ⟨k, hk⟩ := List.getElem?_of_mem hw
    have hkl := lt_some hk
    rw [lvA_len] at hkl
    have : w = (lvA P.1 a b).getD k 0 := (getD_of hk).symm
    by_cases ek : k = P.1.length
    · rw [ek, lvA_new] at this
      omega
    · have h1 := lvA_le (lv := P.1) (a := a) (b := b) (s := k) (by omega)
      have h2 := posOK_le hok k
      omega
theorem rnd_ne {lv x : List Nat} {i a : Nat} (hi : x[i]? = some a) : rnd lv x i ≠ [] := by
  unfold rnd
  rw [drop_cons hi]
  simp
theorem lone_mv {P : PosT} {f u i v j s : Nat} (hL : legal P f u i v j s) (hlo : lone P) (hok : posOK P) : lone (doMv P f u i v j s) := by
  -- walls that stay
  have stay : ∀ {a b : Nat} {x : List Nat}, x ∈ pW P → x ≠ [] ∧ ∀ q ∈ x, (lvA P.1 a b).getD q 0 = 3 → x.length = 1 := by
    intro a b x hx
    refine ⟨(hlo x hx).1, fun q hq h3 => (hlo x hx).2 q hq ?_⟩
    have h1 := hok.1 q (List.mem_flatten.mpr ⟨x, hx, hq⟩)
    have h2 := lvA_le (lv := P.1) (a := a) (b := b) h1
    have h4 := posOK_le hok q
    omega
  -- a corner of a wall that is cut is no free spot any more
  have cut : ∀ {a b : Nat} {x : List Nat} {i q : Nat}, x ∈ pW P → x[i]? = some a → q ∈ x → (lvA P.1 a b).getD q 0 ≠ 3 ∧ (lvA P.1 b a).getD q 0 ≠ 3 := by
    intro a b x i q hx hi hq
    have h1 := hok.1 q (List.mem_flatten.mpr ⟨x, hx, hq⟩)
    have h4 := posOK_le hok q
    by_cases e : P.1.getD q 0 = 3
    · have h5 := (hlo x hx).2 q hq e
      obtain ⟨y, rfl⟩ := List.length_eq_one_iff.mp h5
      have hq2 : q = y := by simpa using hq
      have ha2 : a = y := by
        have := List.mem_of_getElem? hi
        simpa using this
      have : q = a := hq2.trans ha2.symm
      rw [lvA_get h1, lvA_get h1, if_pos this]
      omega
    · have h2 := lvA_le (lv := P.1) (a := a) (b := b) h1
      have h3 := lvA_le (lv := P.1) (a := b) (b := a) h1
      omega
  obtain ⟨G1, G2, a, b, hf, hc, ⟨X1, X2, X3, x, y, hP, hu, hv, hi, hj⟩ | ⟨X1, X2, x, rfl, hP, hu, hi, hj, hij, hs⟩⟩ := legal_split hL
  · have hxm : x ∈ pW P := by unfold pW; rw [hP]; simp
    have hym : y ∈ pW P := by unfold pW; rw [hP]; simp
    have e := doMv_m (s := s) hP hf hu hv hi hj
    rw [e]
    intro w hw
    unfold pW at hw
    simp only [List.flatten_append, List.flatten_cons, List.mem_append, List.mem_cons] at hw
    have oldw : w ∈ pW P ∨ w = rnd P.1 x i ++ [P.1.length] ++ rnd P.1 y j ++ [P.1.length] := by
      unfold pW
      rw [hP]
      simp only [List.flatten_append, List.flatten_cons, List.mem_append, List.mem_cons]
      rcases hw with r | (r | r | r | r) | r
      · exact Or.inl (Or.inl r)
      · exact Or.inl (Or.inr (Or.inl (Or.inl r)))
      · exact Or.inr r
      · exact Or.inl (Or.inr (Or.inl (Or.inr (Or.inr (Or.inl r)))))
      · exact Or.inl (Or.inr (Or.inl (Or.inr (Or.inr (Or.inr (Or.inr r))))))
      · exact Or.inl (Or.inr (Or.inr r))
    rcases oldw with r | r
    · exact stay r
    · subst r
      refine ⟨by simp, fun q hq h3 => ?_⟩
      exfalso
      simp only [List.mem_append, List.mem_singleton] at hq
      rcases hq with ((r | r) | r) | r
      · exact (cut (b := b) hxm hi (rnd_mem r)).1 h3
      · subst r; rw [lvA_new] at h3; omega
      · exact (cut (b := a) hym hj (rnd_mem r)).2 h3
      · subst r; rw [lvA_new] at h3; omega
  · have hxm : x ∈ pW P := by unfold pW; rw [hP]; simp
    have e := doMv_s (s := s) hP hf hu hi hj
    rw [e]
    intro w hw
    unfold pW at hw
    simp only [List.flatten_append, List.flatten_cons, List.flatten_nil, List.append_nil, List.mem_append, List.mem_cons] at hw
    have pkm : ∀ k, w ∈ pk k s (X1 ++ X2) → k = 0 ∨ k = 1 → w ∈ pW P := by
      intro k hk k01
      have : w ∈ X1 ++ X2 := (pk_perm (X1 ++ X2) s).subset (by
        rcases k01 with rfl | rfl
        · exact List.mem_append_left _ hk
        · exact List.mem_append_right _ hk)
      unfold pW
      rw [hP]
      simp only [List.flatten_append, List.flatten_cons, List.mem_append, List.mem_cons]
      rcases List.mem_append.mp this with r | r
      · exact Or.inr (Or.inl (Or.inl r))
      · exact Or.inr (Or.inl (Or.inr (Or.inr r)))
    have hG : w ∈ G1.flatten ∨ w ∈ G2.flatten → w ∈ pW P := by
      intro r
      unfold pW
      rw [hP]
      simp only [List.flatten_append, List.flatten_cons, List.mem_append, List.mem_cons]
      rcases r with r | r
      · exact Or.inl r
      · exact Or.inr (Or.inr r)
    have fresh : ∀ l : List Nat, (∀ q ∈ l, q ∈ x) → w = l ++ [P.1.length] → w ≠ [] ∧ ∀ q ∈ w, (lvA P.1 a b).getD q 0 = 3 → w.length = 1 := by
      intro l hl hw
      subst hw
      refine ⟨by simp, fun q hq h3 => ?_⟩
      exfalso
      rcases List.mem_append.mp hq with r | r
      · exact (cut (b := b) hxm hi (hl q r)).1 h3
      · have : q = P.1.length := by simpa using r
        subst this
        rw [lvA_new] at h3
        omega
    rcases hw with (r | (r | r) | r) | (r | r)
    · exact stay (hG (Or.inl r))
    · exact fresh _ (fun q hq => List.mem_of_mem_drop (List.mem_of_mem_take hq)) r
    · exact stay (pkm 0 r (Or.inl rfl))
    · exact stay (hG (Or.inr r))
    · refine fresh _ (fun q hq => ?_) r
      split at hq
      · exact rnd_mem hq
      · rcases List.mem_append.mp hq with r | r
        · exact List.mem_of_mem_drop r
        · exact List.mem_of_mem_take r
    · exact stay (pkm 1 r (Or.inr rfl))
theorem sizes_mv {P : PosT} {f u i v j s : Nat} (hL : legal P f u i v j s) : (doMv P f u i v j s).2.length ≤ P.2.length + 1 ∧ (pW (doMv P f u i v j s)).length ≤ (pW P).length + 1 ∧ ((∀ X ∈ P.2, X.length ≤ 8) → ∀ X ∈ (doMv P f u i v j s).2, X.length ≤ 8) := by
  obtain ⟨G1, G2, a, b, hf, hc, ⟨X1, X2, X3, x, y, hP, hu, hv, hi, hj⟩ | ⟨X1, X2, x, rfl, hP, hu, hi, hj, hij, hs⟩⟩ := legal_split hL
  · have e := doMv_m (s := s) hP hf hu hv hi hj
    rw [e]
    refine ⟨by rw [hP]; simp, ?_, ?_⟩
    · unfold pW
      rw [hP]
      simp only [List.length_append, List.length_cons, List.length_nil, List.length_map, List.flatten_append, List.flatten_cons, List.flatten_nil, List.map_append, List.map_cons, List.map_nil, List.append_nil]
      omega
    · intro h8 X hX
      have h9 := h8 (X1 ++ x :: (X2 ++ y :: X3)) (by rw [hP]; simp)
      simp only [List.mem_append, List.mem_cons] at hX
      rcases hX with r | r | r
      · exact h8 X (by rw [hP]; simp [r])
      · subst r
        simp only [List.length_append, List.length_cons] at h9 ⊢
        omega
      · exact h8 X (by rw [hP]; simp [r])
  · have e := doMv_s (s := s) hP hf hu hi hj
    have pp := (pk_perm (X1 ++ X2) s).length_eq
    rw [List.length_append, List.length_append] at pp
    rw [e]
    refine ⟨by rw [hP]; simp; omega, ?_, ?_⟩
    · unfold pW
      rw [hP]
      simp only [List.length_append, List.length_cons, List.length_nil, List.length_map, List.flatten_append, List.flatten_cons, List.flatten_nil, List.map_append, List.map_cons, List.map_nil, List.append_nil]
      omega
    · intro h8 X hX
      have h9 := h8 (X1 ++ x :: X2) (by rw [hP]; simp)
      simp only [List.mem_append, List.mem_cons] at hX
      simp only [List.length_append, List.length_cons] at h9
      rcases hX with (r | r | r) | (r | r)
      · exact h8 X (by rw [hP]; simp [r])
      · subst r
        rw [List.length_cons]
        omega
      · exact h8 X (by rw [hP]; simp [r])
      · subst r
        rw [List.length_cons]
        omega
      · cases r
theorem corners_mv {P : PosT} {f u i v j s : Nat} (hL : legal P f u i v j s) (hlo : lone P) : (pC (doMv P f u i v j s)).length ≤ (pC P).length + 4 := by
  obtain ⟨a, b, E, hc, ha, hb, e1, hp, hE⟩ := mv_corners hL hlo
  have hl := hp.length_eq
  have hx : ∀ q, (exA P.1 q).length ≤ 1 := fun q => by unfold exA; split <;> simp
  have h1 := hx a
  have h2 := hx b
  have hE2 : E.length ≤ 2 := by
    rcases hE with ⟨-, rfl, -⟩ | ⟨-, -, rfl, -⟩ | ⟨-, -, -, rfl⟩
    · rw [List.length_append]; omega
    · simp
    · rw [List.length_cons]; omega
  simp only [List.length_append, List.length_cons, List.length_nil] at hl
  omega
theorem cM_two {lv : List Nat} {a b : Nat} (h : cM lv a b = true) : 2 ≤ lv.sum := by
  have := lvA_sum h
  obtain ⟨h1, h2, h3⟩ := cM_ab h
  have h5 : 1 ≤ (lvA lv a b).sum := by
    unfold lvA
    rw [List.sum_append]
    simp
  omega
/-- a position that t moves made of n spots -/
def inv (n t : Nat) (P : PosT) : Prop := (1 ≤ n ∧ n ≤ 8 ∧ t + 1 ≤ 3 * n) ∧ P.1.length = n + t ∧ P.1.sum + t = 3 * n ∧ posOK P ∧ lone P ∧ occ P ∧ (∀ X ∈ P.2, X.length ≤ 8) ∧ P.2.length ≤ 1 + t ∧ (pW P).length ≤ n + t ∧ (pC P).length ≤ n + 4 * t
theorem inv_mv {n t : Nat} {P : PosT} {f u i v j s : Nat} (h : inv n t P) (hL : legal P f u i v j s) : inv n (t + 1) (doMv P f u i v j s) := by
  obtain ⟨h0, h1, h2, h3, h4, h5, h6, h7, h8, h9⟩ := h
  obtain ⟨s1, s2, s3⟩ := sizes_mv hL
  have s4 := corners_mv hL h4
  obtain ⟨a, b, E, hc, ha, hb, e1, hp, hE⟩ := mv_corners hL h4
  have hs := lvA_sum hc
  have h10 := cM_two hc
  refine ⟨⟨h0.1, h0.2.1, by omega⟩, by rw [e1, lvA_len]; omega, by rw [e1]; omega, posOK_mv hL h4 h3, lone_mv hL h4 h3, occ_mv hL h4 h3 h5, s3 h6, by omega, by omega, by omega⟩
theorem inv_lt {n t : Nat} {P : PosT} {f u i v j s : Nat} (h : inv n t P) (hL : legal P f u i v j s) : t + 2 ≤ 3 * n := by
  obtain ⟨Fd, x, y, a, b, -, -, -, -, -, hc⟩ := legal_at hL
  have := cM_two hc
  have := h.2.2.1
  omega
theorem inv.wB {n t : Nat} {P : PosT} (h : inv n t P) : wB P := fun f => by
  by_cases e : f < P.2.length
  · have := h.2.2.2.2.2.2.1 _ (List.mem_of_getElem? (gD (d := []) e))
    unfold fl
    omega
  · rw [fl_out (by omega)]; omega
theorem inv.cap {n t : Nat} {P : PosT} (h : inv n t P) : capC P ∧ rowB P ∧ t ≤ 23 := by
  obtain ⟨h0, h1, h2, h3, h4, h5, h6, h7, h8, h9⟩ := h
  unfold capC rowB
  omega
theorem getD_rep {a n v : Nat} : (List.replicate n v).getD a 0 = if a < n then v else 0 := by
  by_cases e : a < n
  · rw [if_pos e]
    exact getD_of (by rw [List.getElem?_replicate, if_pos e])
  · rw [if_neg e, getD_out (by rw [List.length_replicate]; omega)]
/-- a game's first position -/
def start (n : Nat) : PosT := (List.replicate n 3, [(List.range n).map (fun k => [k])])
theorem fl_single {α : Type} : ∀ l : List α, (l.map (fun k => [k])).flatten = l
  | [] => rfl
  | x :: l => by rw [List.map_cons, List.flatten_cons, fl_single l]; rfl
theorem pC_start {n : Nat} : pC (start n) = List.range n := by
  unfold pC pW start
  simp only [List.flatten_cons, List.flatten_nil, List.append_nil]
  exact fl_single _
theorem inv_start {n : Nat} (h1 : 1 ≤ n) (h2 : n ≤ 8) : inv n 0 (start n) := by
  have hc := pC_start (n := n)
  have hw : pW (start n) = (List.range n).map (fun k => [k]) := by unfold pW start; simp
  refine ⟨⟨h1, h2, by omega⟩, ?_, ?_, ⟨?_, ?_⟩, ?_, ?_, ?_, ?_, ?_, ?_⟩
  · show (List.replicate n 3).length = n + 0
    simp
  · show (List.replicate n 3).sum + 0 = 3 * n
    simp
    omega
  · intro a ha
    rw [hc, List.mem_range] at ha
    show a < (List.replicate n 3).length
    simpa using ha
  · intro v hv
    have : v = 3 := (List.mem_replicate.mp hv).2
    omega
  · intro x hx
    rw [hw] at hx
    obtain ⟨k, -, rfl⟩ := List.mem_map.mp hx
    exact ⟨by simp, fun _ _ _ => rfl⟩
  · intro a ha
    have ha : a < n := by simpa [start] using ha
    have e : (start n).1.getD a 0 = 3 := by
      show (List.replicate n 3).getD a 0 = 3
      rw [getD_rep, if_pos ha]
    rw [e, if_pos rfl, hc]
    exact List.nodup_iff_count.mp List.nodup_range a
  · intro X hX
    have : X = (List.range n).map (fun k => [k]) := by simpa [start] using hX
    rw [this]
    simpa using h2
  · simp [start]
  · rw [hw]; simp
  · rw [hc]; simp
