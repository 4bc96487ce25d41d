/-! what is walked is the part, up to turning and mirroring -/
theorem atF_0 {n s : Nat} (hs : s < n) : ∀ k, k < n → atF n s 0 k = if s + k < n then s + k else s + k - n
  | 0, _ => by rw [if_pos (by omega)]; rfl
  | k + 1, hk => by
    have ih := atF_0 hs k (by omega)
    show stp n 0 (atF n s 0 k) = _
    rw [ih]
    unfold stp
    rw [if_pos rfl]
    by_cases e : s + k < n
    · rw [if_pos e]
      by_cases e2 : s + (k + 1) < n
      · rw [if_pos (by omega), if_pos e2]; omega
      · rw [if_neg (by omega), if_neg e2]; omega
    · rw [if_neg e, if_pos (by omega), if_neg (by omega)]; omega
theorem atF_1 {n s : Nat} (hs : s < n) : ∀ k, k < n → atF n s 31 k = if k ≤ s then s - k else s + n - k
  | 0, _ => by rw [if_pos (by omega)]; rfl
  | k + 1, hk => by
    have ih := atF_1 hs k (by omega)
    show stp n 31 (atF n s 31 k) = _
    rw [ih]
    unfold stp
    rw [if_neg (by decide)]
    by_cases e : k ≤ s
    · rw [if_pos e]
      by_cases e2 : k + 1 ≤ s
      · rw [if_pos (by omega), if_pos e2]; omega
      · rw [if_neg (by omega), if_neg e2]; omega
    · rw [if_neg e, if_pos (by omega), if_neg (by omega)]; omega
theorem rotW_0 {x : List Nat} {s : Nat} (hs : s < x.length) : rotW x s 0 = x.drop s ++ x.take s := by
  unfold rotW
  refine List.ext_getElem? fun k => ?_
  rw [List.getElem?_map]
  by_cases q : k < x.length
  · rw [List.getElem?_range q]
    simp only [Option.map_some]
    rw [atF_0 hs k q]
    by_cases e : s + k < x.length
    · rw [if_pos e, List.getElem?_append_left (by rw [List.length_drop]; omega), List.getElem?_drop, gD (d := 0) e]
    · rw [if_neg e, List.getElem?_append_right (by rw [List.length_drop]; omega), List.length_drop, List.getElem?_take, if_pos (by omega), show k - (x.length - s) = s + k - x.length by omega, gD (d := 0) (by omega : s + k - x.length < x.length)]
  · rw [List.getElem?_eq_none (by rw [List.length_range]; omega), List.getElem?_eq_none (by rw [List.length_append, List.length_drop, List.length_take]; omega)]
    rfl
theorem rotW_1 {x : List Nat} {s : Nat} (hs : s < x.length) : rotW x s 31 = (x.drop (s + 1) ++ x.take (s + 1)).reverse := by
  unfold rotW
  refine List.ext_getElem? fun k => ?_
  rw [List.getElem?_map]
  have hl : (x.drop (s + 1) ++ x.take (s + 1)).length = x.length := by rw [List.length_append, List.length_drop, List.length_take]; omega
  by_cases q : k < x.length
  · rw [List.getElem?_range q]
    simp only [Option.map_some]
    rw [atF_1 hs k q, List.getElem?_reverse (by rw [hl]; exact q), hl]
    by_cases e : k ≤ s
    · rw [if_pos e, List.getElem?_append_right (by rw [List.length_drop]; omega), List.length_drop, List.getElem?_take, if_pos (by omega), show x.length - 1 - k - (x.length - (s + 1)) = s - k by omega, gD (d := 0) (by omega : s - k < x.length)]
    · rw [if_neg e, List.getElem?_append_left (by rw [List.length_drop]; omega), List.getElem?_drop, show s + 1 + (x.length - 1 - k) = s + x.length - k by omega, gD (d := 0) (by omega : s + x.length - k < x.length)]
  · rw [List.getElem?_eq_none (by rw [List.length_range]; omega), List.getElem?_eq_none (by rw [List.length_reverse, hl]; omega)]
    rfl
theorem WR_rot {L p q : List Nat} (h : lvW L (p ++ q) = true) : WR L (p ++ q) (q ++ p) := by
  obtain ⟨a, h1, h2⟩ := lvW_iff.mp h
  rcases List.mem_append.mp h1 with h1 | h1
  · obtain ⟨s, t, rfl⟩ := List.append_of_mem h1
    exact ⟨a, s, t ++ q, q ++ s, t, h2, by simp, by simp, by have := NE.rfl (L := L) (a :: (t ++ q ++ s) ++ [a]); simpa using this⟩
  · obtain ⟨s, t, rfl⟩ := List.append_of_mem h1
    exact ⟨a, p ++ s, t, s, t ++ p, h2, by simp, by simp, by have := NE.rfl (L := L) (a :: (t ++ (p ++ s)) ++ [a]); simpa using this⟩
theorem FR_both {L : List Nat} {α : Type} {f g : α → List Nat} : ∀ {l : List α}, (∀ w ∈ l, WR L (f w) (g w)) → FR L (l.map f) (l.map g)
  | [], _ => .refl
  | w :: l, h => .cons (h w (List.mem_cons_self ..)) (FR_both fun y hy => h y (List.mem_cons_of_mem _ hy))
theorem fld_ls {P : PosT} {f : Nat} (hf : f < P.2.length) : (List.range' (lSt P.2 f) (fl P f)).map (wx P) = P.2.getD f [] := by
  refine List.ext_getElem? fun k => ?_
  rw [List.getElem?_map]
  by_cases q : k < fl P f
  · rw [List.getElem?_range' q, Nat.one_mul]
    have h1 := gD (d := []) hf
    have h2 : (P.2.getD f [])[k]? = some ((P.2.getD f []).getD k []) := gD q
    have h3 := lSt_at h1 h2
    simp only [Option.map_some]
    rw [h2]
    congr 1
    exact getD_of h3
  · rw [List.getElem?_eq_none (by rw [List.length_range']; omega), List.getElem?_eq_none (by unfold fl at q; omega)]
    rfl
theorem rotW_WR {L x : List Nat} {s way : Nat} (hs : s < x.length) (hway : way = 0 ∨ way = 31) (hx : lvW L x = true) : WR L x (if way = 0 then rotW x s way else (rotW x s way).reverse) := by
  rcases hway with rfl | rfl
  · rw [if_pos rfl, rotW_0 hs]
    have := WR_rot (L := L) (p := x.take s) (q := x.drop s) (by rw [List.take_append_drop]; exact hx)
    rw [List.take_append_drop] at this
    exact this
  · rw [if_neg (by decide), rotW_1 hs, List.reverse_reverse]
    have := WR_rot (L := L) (p := x.take (s + 1)) (q := x.drop (s + 1)) (by rw [List.take_append_drop]; exact hx)
    rw [List.take_append_drop] at this
    exact this
theorem rotW_perm {x : List Nat} {s way : Nat} (hs : s < x.length) (hway : way = 0 ∨ way = 31) : (rotW x s way).Perm x := by
  rcases hway with rfl | rfl
  · rw [rotW_0 hs]
    exact List.perm_append_comm.trans (by rw [List.take_append_drop])
  · rw [rotW_1 hs]
    exact (List.reverse_perm _).trans (List.perm_append_comm.trans (by rw [List.take_append_drop]))
theorem vF_FM {P : PosT} {wr so tu : Nat → Int32} {f : Nat} (hf : f < P.2.length) (ok : trOK P f wr so tu) (hW : (pW P).length ≤ 31) (hlv : ∀ x ∈ pW P, lvW P.1 x = true) : FM P.1 (P.2.getD f []) (vF P wr so tu f) := by
  obtain ⟨ok0, ok1, way, hway, htu⟩ := ok
  have ok : rwOK P f way wr so := by
    rcases hway with rfl | rfl
    · exact ok0
    · exact ok1
  obtain ⟨o1, o2, o3⟩ := ok.ls hW
  have huw : uI (tu f) = way := by rw [htu, uI_nI (by omega)]
  unfold vF
  rw [huw]
  have hp : (P.2.getD f []).Perm ((lsF P wr way f).map (wx P)) := by
    rw [← fld_ls hf]
    exact (o1.map _).symm
  have hw : ∀ w ∈ lsF P wr way f, WR P.1 (wx P w) (if way = 0 then rotW (wx P w) (uI (so (way + w))) way else (rotW (wx P w) (uI (so (way + w))) way).reverse) := fun w hw => by
    obtain ⟨-, x, k1, k2, k3⟩ := o3 w hw
    have : wx P w = x := getD_of k1
    rw [this]
    exact rotW_WR k2 hway (hlv x (List.mem_of_getElem? k1))
  have := (FR.perm hp).trans (FR_both hw)
  by_cases e : way = 0
  · simp only [if_pos e] at this
    exact Or.inl this
  · simp only [if_neg e] at this
    right
    unfold mir wV
    rw [List.map_map]
    exact this
theorem vF_perm {P : PosT} {wr so tu : Nat → Int32} {f : Nat} (hf : f < P.2.length) (ok : trOK P f wr so tu) (hW : (pW P).length ≤ 31) : (vF P wr so tu f).flatten.Perm (P.2.getD f []).flatten := by
  obtain ⟨ok0, ok1, way, hway, htu⟩ := ok
  have ok : rwOK P f way wr so := by
    rcases hway with rfl | rfl
    · exact ok0
    · exact ok1
  obtain ⟨o1, o2, o3⟩ := ok.ls hW
  have huw : uI (tu f) = way := by rw [htu, uI_nI (by omega)]
  unfold vF
  rw [huw]
  have hp : ((lsF P wr way f).map (wx P)).flatten.Perm (P.2.getD f []).flatten := by
    rw [← fld_ls hf]
    exact fl_perm (o1.map _)
  refine List.Perm.trans ?_ hp
  unfold wV
  have : ∀ l : List Nat, (∀ w ∈ l, (rotW (wx P w) (uI (so (way + w))) way).Perm (wx P w)) → (l.map (fun w => rotW (wx P w) (uI (so (way + w))) way)).flatten.Perm (l.map (wx P)).flatten := by
    intro l
    induction l with
    | nil => exact fun _ => List.Perm.refl _
    | cons w l ih =>
      intro hl
      rw [List.map_cons, List.map_cons, List.flatten_cons, List.flatten_cons]
      exact (hl w (List.mem_cons_self ..)).append (ih fun y hy => hl y (List.mem_cons_of_mem _ hy))
  refine this _ fun w hw => ?_
  obtain ⟨-, x, k1, k2, k3⟩ := o3 w hw
  have : wx P w = x := getD_of k1
  rw [this]
  exact rotW_perm k2 hway
/-- the fields of a set -/
def sM (F : List (List (List Nat))) (l : List Nat) : List (List (List Nat)) := l.map (fun f => F.getD f [])
theorem vR_RR {P : PosT} {wr so tu : Nat → Int32} {l : List Nat} (hl : ∀ f ∈ l, f < P.2.length ∧ trOK P f wr so tu) (hW : (pW P).length ≤ 31) (hlv : ∀ x ∈ pW P, lvW P.1 x = true) : RR P.1 (sM P.2 l) (vR P wr so tu l) := by
  induction l with
  | nil => exact .refl
  | cons f l ih =>
    have h1 := hl f (List.mem_cons_self ..)
    exact .cons (vF_FM h1.1 h1.2 hW hlv) (ih fun g hg => hl g (List.mem_cons_of_mem _ hg))
theorem vR_perm {P : PosT} {wr so tu : Nat → Int32} {l : List Nat} (hl : ∀ f ∈ l, f < P.2.length ∧ trOK P f wr so tu) (hW : (pW P).length ≤ 31) : (vR P wr so tu l).flatten.flatten.Perm (sM P.2 l).flatten.flatten := by
  induction l with
  | nil => exact List.Perm.refl _
  | cons f l ih =>
    have h1 := hl f (List.mem_cons_self ..)
    have e1 : vR P wr so tu (f :: l) = vF P wr so tu f :: vR P wr so tu l := rfl
    have e2 : sM P.2 (f :: l) = P.2.getD f [] :: sM P.2 l := rfl
    rw [e1, e2, List.flatten_cons, List.flatten_append, List.flatten_cons, List.flatten_append]
    exact (vF_perm h1.1 h1.2 hW).append (ih fun g hg => hl g (List.mem_cons_of_mem _ hg))
theorem sM_sub {F : List (List (List Nat))} {l : List Nat} (h1 : l.Nodup) (h2 : ∀ f ∈ l, f < F.length) : ∃ R, F.Perm (sM F l ++ R) := by
  have e : sM F (List.range F.length) = F := by
    unfold sM
    refine List.ext_getElem? fun k => ?_
    rw [List.getElem?_map]
    by_cases q : k < F.length
    · rw [List.getElem?_range q, gD (d := []) q]
      rfl
    · rw [List.getElem?_eq_none (by rw [List.length_range]; omega), List.getElem?_eq_none (by omega)]
      rfl
  have hp : ∀ (l : List Nat) (m : List Nat), l.Nodup → m.Nodup → (∀ f ∈ l, f ∈ m) → ∃ r, m.Perm (l ++ r) := by
    intro l
    induction l with
    | nil => exact fun m _ _ _ => ⟨m, List.Perm.refl _⟩
    | cons f l ih =>
      intro m n1 n2 hs
      obtain ⟨k1, k2⟩ := List.nodup_cons.mp n1
      obtain ⟨m1, m2, rfl⟩ := List.append_of_mem (hs f (List.mem_cons_self ..))
      have n3 : (f :: (m1 ++ m2)).Nodup := List.perm_middle.nodup_iff.mp n2
      obtain ⟨r, hr⟩ := ih (m1 ++ m2) k2 (List.nodup_cons.mp n3).2 (fun g hg => by
        have h3 := hs g (List.mem_cons_of_mem _ hg)
        have hne : g ≠ f := fun q => k1 (q ▸ hg)
        rcases List.mem_append.mp h3 with h3 | h3
        · exact List.mem_append_left _ h3
        · rcases List.mem_cons.mp h3 with h3 | h3
          · exact absurd h3 hne
          · exact List.mem_append_right _ h3)
      exact ⟨r, List.perm_middle.trans (hr.cons f)⟩
  obtain ⟨r, hr⟩ := hp l (List.range F.length) h1 List.nodup_range (fun f hf => List.mem_range.mpr (h2 f hf))
  refine ⟨sM F r, ?_⟩
  have := hr.map (fun f => F.getD f [])
  rw [List.map_append] at this
  have e2 : (List.range F.length).map (fun f => F.getD f []) = F := e
  rw [e2] at this
  exact this
