/-! rows up to their order, walls up to what no move sees -/
def PR {α β : Type} (r : α → β → Prop) : List α → List β → Prop
  | [], l => l = []
  | x :: t, l => ∃ y s, l.Perm (y :: s) ∧ r x y ∧ PR r t s
theorem PR_right {α β : Type} {r : α → β → Prop} : ∀ {l : List α} {m m2 : List β}, m.Perm m2 → PR r l m → PR r l m2
  | [], m, m2, h, H => by
    have H : m = [] := H
    subst H
    exact h.symm.eq_nil
  | x :: t, m, m2, h, H => by
    obtain ⟨y, s, h1, h2, h3⟩ := H
    exact ⟨y, s, h.symm.trans h1, h2, h3⟩
theorem PR_left {α β : Type} {r : α → β → Prop} {l l2 : List α} (h : l.Perm l2) : ∀ {m : List β}, PR r l m → PR r l2 m := by
  induction h with
  | nil => exact fun H => H
  | cons x _ ih =>
    rintro m ⟨y, s, h1, h2, h3⟩
    exact ⟨y, s, h1, h2, ih h3⟩
  | swap x y l =>
    rintro m ⟨a, s, h1, h2, b, t, h3, h4, h5⟩
    refine ⟨b, a :: t, h1.trans ((h3.cons a).trans (List.Perm.swap b a t)), h4, a, t, List.Perm.refl _, h2, h5⟩
  | trans _ _ ih1 ih2 => exact fun H => ih2 (ih1 H)
theorem PR_cons {α β : Type} {r : α → β → Prop} {x : α} {y : β} {l : List α} {m : List β} (h : r x y) (H : PR r l m) : PR r (x :: l) (y :: m) := ⟨y, m, List.Perm.refl _, h, H⟩
theorem PR_at {α β : Type} {r : α → β → Prop} {x : α} {l t : List α} {m : List β} (h : l.Perm (x :: t)) (H : PR r l m) : ∃ y s, m.Perm (y :: s) ∧ r x y ∧ PR r t s := PR_left h H
theorem PR_symm {α β : Type} {r : α → β → Prop} : ∀ {l : List α} {m : List β}, PR r l m → PR (fun y x => r x y) m l
  | [], m, H => by
    have H : m = [] := H
    subst H
    rfl
  | x :: t, m, H => by
    obtain ⟨y, s, h1, h2, h3⟩ := H
    exact PR_left h1.symm (PR_cons h2 (PR_symm h3))
theorem PR_trans {α β γ : Type} {r : α → β → Prop} {q : β → γ → Prop} {w : α → γ → Prop} (hw : ∀ x y z, r x y → q y z → w x z) : ∀ {l : List α} {m : List β} {k : List γ}, PR r l m → PR q m k → PR w l k
  | [], m, k, H, K => by
    have H : m = [] := H
    subst H
    exact K
  | x :: t, m, k, H, K => by
    obtain ⟨y, s, h1, h2, h3⟩ := H
    obtain ⟨z, u, h4, h5, h6⟩ := PR_at h1 K
    exact ⟨z, u, h4, hw _ _ _ h2 h5, PR_trans hw h3 h6⟩
theorem PR_refl {α : Type} {r : α → α → Prop} : ∀ {l : List α}, (∀ x ∈ l, r x x) → PR r l l
  | [], _ => rfl
  | x :: l, h => PR_cons (h x (List.mem_cons_self ..)) (PR_refl fun y hy => h y (List.mem_cons_of_mem _ hy))
theorem PR_perm {α : Type} {r : α → α → Prop} {l m : List α} (h : l.Perm m) (hr : ∀ x ∈ l, r x x) : PR r l m := PR_right h (PR_refl hr)
theorem PR_app {α β : Type} {r : α → β → Prop} : ∀ {l l2 : List α} {m m2 : List β}, PR r l m → PR r l2 m2 → PR r (l ++ l2) (m ++ m2)
  | [], l2, m, m2, H, K => by
    have H : m = [] := H
    subst H
    exact K
  | x :: t, l2, m, m2, H, K => by
    obtain ⟨y, s, h1, h2, h3⟩ := H
    exact ⟨y, s ++ m2, h1.append_right m2, h2, PR_app h3 K⟩
theorem PR_split {α β : Type} {r : α → β → Prop} : ∀ {l l2 : List α} {m : List β}, PR r (l ++ l2) m → ∃ m1 m2, m.Perm (m1 ++ m2) ∧ PR r l m1 ∧ PR r l2 m2
  | [], l2, m, H => ⟨[], m, List.Perm.refl _, rfl, H⟩
  | x :: t, l2, m, H => by
    obtain ⟨y, s, h1, h2, h3⟩ := H
    obtain ⟨m1, m2, h4, h5, h6⟩ := PR_split h3
    exact ⟨y :: m1, m2, h1.trans (h4.cons y), PR_cons h2 h5, h6⟩
theorem PR_filter {α β : Type} {r q : α → β → Prop} {p : α → Bool} {p2 : β → Bool} (h : ∀ x y, r x y → p x = p2 y) (hq : ∀ x y, r x y → p x = true → q x y) : ∀ {l : List α} {m : List β}, PR r l m → PR q (l.filter p) (m.filter p2)
  | [], m, H => by
    have H : m = [] := H
    subst H
    rfl
  | x :: t, m, H => by
    obtain ⟨y, s, h1, h2, h3⟩ := H
    have ih := PR_filter h hq h3
    have e := h x y h2
    refine PR_right (h1.symm.filter p2) ?_
    by_cases c : p x = true
    · rw [List.filter_cons_of_pos c, List.filter_cons_of_pos (e ▸ c)]
      exact PR_cons (hq x y h2 c) ih
    · rw [List.filter_cons_of_neg c, List.filter_cons_of_neg (e ▸ c)]
      exact ih
theorem PR_map {α β γ δ : Type} {r : α → β → Prop} {q : γ → δ → Prop} {f : α → γ} {g : β → δ} (h : ∀ x y, r x y → q (f x) (g y)) : ∀ {l : List α} {m : List β}, PR r l m → PR q (l.map f) (m.map g)
  | [], m, H => by
    have H : m = [] := H
    subst H
    rfl
  | x :: t, m, H => by
    obtain ⟨y, s, h1, h2, h3⟩ := H
    exact PR_right (h1.symm.map g) (PR_cons (h x y h2) (PR_map h h3))
theorem PR_imp {α β : Type} {r q : α → β → Prop} (h : ∀ x y, r x y → q x y) {l : List α} {m : List β} (H : PR r l m) : PR q l m := by
  have := PR_map (f := fun x => x) (g := fun y => y) h H
  rwa [List.map_id', List.map_id'] at this
/-- a row loses one that passes the sieve -/
theorem perm_sieve {α : Type} {p : α → Bool} {l : List α} {x : α} {t : List α} (h : (l.filter p).Perm (x :: t)) : ∃ s, l.Perm (x :: s) ∧ (s.filter p).Perm t ∧ p x = true := by
  have hm : x ∈ l.filter p := h.symm.subset (List.mem_cons_self ..)
  obtain ⟨hm1, hm2⟩ := List.mem_filter.mp hm
  obtain ⟨l1, l2, rfl⟩ := List.append_of_mem hm1
  refine ⟨l1 ++ l2, List.perm_middle, ?_, hm2⟩
  have h2 : ((l1 ++ x :: l2).filter p).Perm (x :: (l1 ++ l2).filter p) := by
    have := (List.perm_middle (a := x) (l₁ := l1) (l₂ := l2)).filter p
    rwa [List.filter_cons_of_pos hm2] at this
  exact (h2.symm.trans h).cons_inv
/-! walls: dead corners and a spot told twice in a row make no difference -/
def lvd (L : List Nat) (a : Nat) : Prop := 1 ≤ L.getD a 1
/-- a way of taking rows for one another -/
def neC (L : List Nat) (r : List Nat → List Nat → Prop) : Prop := (∀ x, r x x) ∧ (∀ x y, r x y → r y x) ∧ (∀ x y z, r x y → r y z → r x z) ∧ (∀ x y x2 y2, r x y → r x2 y2 → r (x ++ x2) (y ++ y2)) ∧ (∀ d, ¬ lvd L d → r [d] []) ∧ ∀ a, r [a, a] [a]
def NE (L x y : List Nat) : Prop := ∀ r, neC L r → r x y
theorem NE.rfl {L : List Nat} (x : List Nat) : NE L x x := fun _ R => R.1 x
theorem NE.sym {L x y : List Nat} (h : NE L x y) : NE L y x := fun r R => R.2.1 _ _ (h r R)
theorem NE.trn {L x y z : List Nat} (h : NE L x y) (k : NE L y z) : NE L x z := fun r R => R.2.2.1 _ _ _ (h r R) (k r R)
theorem NE.app {L x y x2 y2 : List Nat} (h : NE L x y) (k : NE L x2 y2) : NE L (x ++ x2) (y ++ y2) := fun r R => R.2.2.2.1 _ _ _ _ (h r R) (k r R)
theorem NE.ded {L : List Nat} {d : Nat} (h : ¬ lvd L d) : NE L [d] [] := fun _ R => R.2.2.2.2.1 d h
theorem NE.dup {L : List Nat} (a : Nat) : NE L [a, a] [a] := fun _ R => R.2.2.2.2.2 a
theorem NE.mono {L L2 : List Nat} (hL : ∀ a, lvd L2 a → lvd L a) {x y : List Nat} (h : NE L x y) : NE L2 x y := h _ ⟨NE.rfl, fun _ _ => NE.sym, fun _ _ _ => NE.trn, fun _ _ _ _ => NE.app, fun d h => .ded fun q => h (hL _ q), .dup⟩
theorem NE.rev {L : List Nat} {x y : List Nat} (h : NE L x y) : NE L x.reverse y.reverse := h (fun x y => NE L x.reverse y.reverse) ⟨fun _ => .rfl _, fun _ _ => NE.sym, fun _ _ _ => NE.trn, fun x y x2 y2 h1 h2 => by show NE L (x ++ x2).reverse (y ++ y2).reverse; rw [List.reverse_append, List.reverse_append]; exact .app h2 h1, fun d h => .ded h, .dup⟩
theorem cut_app {a : Nat} {x y p q : List Nat} (h : x ++ y = p ++ a :: q) : (∃ q1, x = p ++ a :: q1 ∧ q = q1 ++ y) ∨ (∃ p1, y = p1 ++ a :: q ∧ p = x ++ p1) := by
  rcases List.append_eq_append_iff.mp h with ⟨s, h1, h2⟩ | ⟨s, h1, h2⟩
  · exact Or.inr ⟨s, h2, h1⟩
  · cases s with
    | nil => exact Or.inr ⟨[], by simpa using h2.symm, by simpa using h1.symm⟩
    | cons b s =>
      rw [List.cons_append] at h2
      injection h2 with h3 h4
      subst h3
      exact Or.inl ⟨s, h1, h4⟩
def cutB (L x y : List Nat) : Prop := (∀ p a q, lvd L a → x = p ++ a :: q → ∃ p2 q2, y = p2 ++ a :: q2 ∧ NE L (p ++ [a]) (p2 ++ [a]) ∧ NE L (a :: q) (a :: q2)) ∧ (∀ p a q, lvd L a → y = p ++ a :: q → ∃ p2 q2, x = p2 ++ a :: q2 ∧ NE L (p ++ [a]) (p2 ++ [a]) ∧ NE L (a :: q) (a :: q2))
theorem NE.cut2 {L : List Nat} {x y : List Nat} (h : NE L x y) : cutB L x y := by
  refine (h (fun x y => NE L x y ∧ cutB L x y) ⟨?_, ?_, ?_, ?_, ?_, ?_⟩).2
  · exact fun x => ⟨.rfl _, fun p a q _ h => ⟨p, q, h, .rfl _, .rfl _⟩, fun p a q _ h => ⟨p, q, h, .rfl _, .rfl _⟩⟩
  · exact fun x y h => ⟨h.1.sym, h.2.2, h.2.1⟩
  · rintro x y z ⟨k1, ih1⟩ ⟨k2, ih2⟩
    refine ⟨k1.trn k2, fun p a q ha h => ?_, fun p a q ha h => ?_⟩
    · obtain ⟨p2, q2, h1, h2, h3⟩ := ih1.1 p a q ha h
      obtain ⟨p3, q3, h4, h5, h6⟩ := ih2.1 p2 a q2 ha h1
      exact ⟨p3, q3, h4, .trn h2 h5, .trn h3 h6⟩
    · obtain ⟨p2, q2, h1, h2, h3⟩ := ih2.2 p a q ha h
      obtain ⟨p3, q3, h4, h5, h6⟩ := ih1.2 p2 a q2 ha h1
      exact ⟨p3, q3, h4, .trn h2 h5, .trn h3 h6⟩
  · rintro x y x2 y2 ⟨k1, ih1⟩ ⟨k2, ih2⟩
    refine ⟨k1.app k2, fun p a q ha h => ?_, fun p a q ha h => ?_⟩
    · rcases cut_app h with ⟨q1, h1, rfl⟩ | ⟨p1, h1, rfl⟩
      · obtain ⟨p2, q2, h3, h4, h5⟩ := ih1.1 p a q1 ha h1
        exact ⟨p2, q2 ++ y2, by rw [h3]; simp, h4, .app h5 k2⟩
      · obtain ⟨p2, q2, h3, h4, h5⟩ := ih2.1 p1 a q ha h1
        exact ⟨y ++ p2, q2, by rw [h3]; simp, by rw [List.append_assoc, List.append_assoc]; exact .app k1 h4, h5⟩
    · rcases cut_app h with ⟨q1, h1, rfl⟩ | ⟨p1, h1, rfl⟩
      · obtain ⟨p2, q2, h3, h4, h5⟩ := ih1.2 p a q1 ha h1
        exact ⟨p2, q2 ++ x2, by rw [h3]; simp, h4, .app h5 (.sym k2)⟩
      · obtain ⟨p2, q2, h3, h4, h5⟩ := ih2.2 p1 a q ha h1
        exact ⟨x ++ p2, q2, by rw [h3]; simp, by rw [List.append_assoc, List.append_assoc]; exact .app (.sym k1) h4, h5⟩
  · intro d hd
    refine ⟨.ded hd, fun p a q ha h => ?_, fun p a q ha h => ?_⟩
    · have : a ∈ [d] := by rw [h]; simp
      have : a = d := by simpa using this
      subst this
      exact absurd ha hd
    · exact absurd h (by simp)
  · intro b
    refine ⟨.dup b, fun p a q ha h => ?_, fun p a q ha h => ?_⟩
    · match p, h with
      | [], h =>
        rw [List.nil_append] at h
        injection h with h1 h2
        subst h1 h2
        exact ⟨[], [], Eq.refl _, .rfl _, .dup _⟩
      | [c], h =>
        rw [List.cons_append, List.nil_append] at h
        injection h with h1 h2
        injection h2 with h2 h3
        subst h1 h2 h3
        exact ⟨[], [], Eq.refl _, .dup _, .rfl _⟩
      | c :: e :: p, h =>
        rw [List.cons_append, List.cons_append] at h
        injection h with h1 h2
        injection h2 with h2 h3
        exact absurd h3.symm (by simp)
    · match p, h with
      | [], h =>
        rw [List.nil_append] at h
        injection h with h1 h2
        subst h1 h2
        exact ⟨[], [b], Eq.refl _, .rfl _, .sym (.dup _)⟩
      | c :: p, h =>
        rw [List.cons_append] at h
        injection h with h1 h2
        exact absurd h2.symm (by simp)
theorem NE.cut {L : List Nat} {x y p q : List Nat} {a : Nat} (h : NE L x y) (ha : lvd L a) (e : x = p ++ a :: q) : ∃ p2 q2, y = p2 ++ a :: q2 ∧ NE L (p ++ [a]) (p2 ++ [a]) ∧ NE L (a :: q) (a :: q2) := h.cut2.1 p a q ha e
theorem NE.mem {L : List Nat} {x y : List Nat} {a : Nat} (h : NE L x y) (ha : lvd L a) (m : a ∈ x) : a ∈ y := by
  obtain ⟨p, q, e⟩ := List.append_of_mem m
  obtain ⟨p2, q2, e2, -, -⟩ := h.cut ha e
  rw [e2]
  simp
/-- two joined at a spot that both tell -/
theorem NE.glue {L : List Nat} {b : Nat} {x y : List Nat} : NE L (x ++ b :: b :: y) (x ++ b :: y) := .app (.rfl x) (.app (x := [b, b]) (y := [b]) (.dup b) (.rfl y))
/-- the closed round of a wall, cut at one of its corners, tells the same from there -/
theorem turn_to {L : List Nat} {b a : Nat} {s t P Q : List Nat} (h : b :: (t ++ s) ++ [b] = P ++ a :: Q) : ∃ p q, s ++ b :: t = p ++ a :: q ∧ NE L (a :: (Q ++ P) ++ [a]) (a :: (q ++ p) ++ [a]) := by
  match P, h with
  | [], h =>
    rw [List.nil_append, List.cons_append] at h
    injection h with h1 h2
    subst h1 h2
    refine ⟨s, t, rfl, ?_⟩
    have := NE.glue (L := L) (b := b) (x := b :: (t ++ s)) (y := [])
    simpa using this
  | c :: P, h =>
    rw [List.cons_append, List.cons_append] at h
    injection h with h1 h2
    subst h1
    rcases cut_app h2 with ⟨q1, h3, rfl⟩ | ⟨p1, h3, rfl⟩
    · rcases cut_app h3 with ⟨q2, h4, rfl⟩ | ⟨p2, h4, rfl⟩
      · refine ⟨s ++ b :: P, q2, by rw [h4]; simp, ?_⟩
        have := NE.glue (L := L) (b := b) (x := a :: (q2 ++ s)) (y := P ++ [a])
        simpa using this
      · refine ⟨p2, q1 ++ b :: t, by rw [h4]; simp, ?_⟩
        have := NE.glue (L := L) (b := b) (x := a :: q1) (y := t ++ p2 ++ [a])
        simpa using this
    · match p1, h3 with
      | [], h3 =>
        rw [List.nil_append] at h3
        injection h3 with h4 h5
        subst h4 h5
        refine ⟨s, t, rfl, ?_⟩
        have := NE.glue (L := L) (b := b) (x := []) (y := t ++ s ++ [b])
        simpa using this
      | e :: p1, h3 =>
        rw [List.cons_append] at h3
        injection h3 with h4 h5
        exact absurd h5 (by simp)
theorem turn_of {L : List Nat} {b a : Nat} {s t p q : List Nat} (h : s ++ b :: t = p ++ a :: q) : ∃ P Q, b :: (t ++ s) ++ [b] = P ++ a :: Q ∧ NE L (a :: (Q ++ P) ++ [a]) (a :: (q ++ p) ++ [a]) := by
  rcases cut_app h with ⟨q1, rfl, rfl⟩ | ⟨p1, h3, rfl⟩
  · refine ⟨b :: (t ++ p), q1 ++ [b], by simp, ?_⟩
    have := NE.glue (L := L) (b := b) (x := a :: q1) (y := t ++ p ++ [a])
    simpa using this
  · match p1, h3 with
    | [], h3 =>
      rw [List.nil_append] at h3
      injection h3 with h4 h5
      subst h4 h5
      refine ⟨[], t ++ s ++ [b], by simp, ?_⟩
      have := NE.glue (L := L) (b := b) (x := b :: (t ++ s)) (y := [])
      simpa using this
    | e :: p1, h3 =>
      rw [List.cons_append] at h3
      injection h3 with h4 h5
      subst h4 h5
      refine ⟨b :: p1, q ++ s ++ [b], by simp, ?_⟩
      have := NE.glue (L := L) (b := b) (x := a :: (q ++ s)) (y := p1 ++ [a])
      simpa using this
/-- two walls that no move tells apart -/
def WR (L : List Nat) (X Y : List Nat) : Prop := ∃ a p q p2 q2, lvd L a ∧ X = p ++ a :: q ∧ Y = p2 ++ a :: q2 ∧ NE L (a :: (q ++ p) ++ [a]) (a :: (q2 ++ p2) ++ [a])
theorem WR.cut {L X Y p q : List Nat} {a : Nat} (h : WR L X Y) (ha : lvd L a) (e : X = p ++ a :: q) : ∃ p2 q2, Y = p2 ++ a :: q2 ∧ NE L (a :: (q ++ p) ++ [a]) (a :: (q2 ++ p2) ++ [a]) := by
  obtain ⟨b, s, t, s2, t2, hb, h1, h2, h3⟩ := h
  obtain ⟨P, Q, h4, h5⟩ := turn_of (L := L) (h1.symm.trans e)
  obtain ⟨P2, Q2, h6, h7, h8⟩ := h3.cut ha h4
  obtain ⟨p2, q2, h9, h10⟩ := turn_to (L := L) h6
  refine ⟨p2, q2, h2.trans h9, .trn (.sym h5) (.trn ?_ h10)⟩
  have := NE.app h8 h7
  simpa using this
theorem WR.symm {L X Y : List Nat} (h : WR L X Y) : WR L Y X := by
  obtain ⟨b, s, t, s2, t2, hb, h1, h2, h3⟩ := h
  exact ⟨b, s2, t2, s, t, hb, h2, h1, h3.sym⟩
theorem WR.trans {L X Y Z : List Nat} (h : WR L X Y) (k : WR L Y Z) : WR L X Z := by
  obtain ⟨b, s, t, s2, t2, hb, h1, h2, h3⟩ := h
  obtain ⟨p, q, h4, h5⟩ := k.cut hb h2
  exact ⟨b, s, t, p, q, hb, h1, h4, .trn h3 h5⟩
theorem WR.refl {L X : List Nat} {a : Nat} (ha : lvd L a) (h : a ∈ X) : WR L X X := by
  obtain ⟨p, q, e⟩ := List.append_of_mem h
  exact ⟨a, p, q, p, q, ha, e, e, .rfl _⟩
theorem WR.mem {L X Y : List Nat} {a : Nat} (h : WR L X Y) (ha : lvd L a) (m : a ∈ X) : a ∈ Y := by
  obtain ⟨p, q, e⟩ := List.append_of_mem m
  obtain ⟨p2, q2, e2, -⟩ := h.cut ha e
  rw [e2]
  simp
theorem WR.mono {L L2 X Y : List Nat} {a : Nat} (h : WR L X Y) (hL : ∀ a, lvd L2 a → lvd L a) (ha : lvd L2 a) (m : a ∈ X) : WR L2 X Y := by
  obtain ⟨p, q, e⟩ := List.append_of_mem m
  obtain ⟨p2, q2, e2, h2⟩ := h.cut (hL a ha) e
  exact ⟨a, p, q, p2, q2, ha, e, e2, h2.mono hL⟩
theorem WR.rev {L X Y : List Nat} (h : WR L X Y) : WR L X.reverse Y.reverse := by
  obtain ⟨b, s, t, s2, t2, hb, h1, h2, h3⟩ := h
  refine ⟨b, t.reverse, s.reverse, t2.reverse, s2.reverse, hb, by rw [h1]; simp, by rw [h2]; simp, ?_⟩
  have := h3.rev
  simpa using this
/-- two corners of one wall, and the two ways between them -/
theorem WR.cut2 {L X Y x y p q : List Nat} {a b : Nat} (h : WR L X Y) (ha : lvd L a) (hb : lvd L b) (hab : a ≠ b) (e : X = p ++ a :: q) (e2 : q ++ p = x ++ b :: y) : ∃ p2 q2 x2 y2, Y = p2 ++ a :: q2 ∧ q2 ++ p2 = x2 ++ b :: y2 ∧ NE L (a :: (x ++ [b])) (a :: (x2 ++ [b])) ∧ NE L (b :: (y ++ [a])) (b :: (y2 ++ [a])) := by
  obtain ⟨p2, q2, h1, h2⟩ := h.cut ha e
  rw [e2] at h2
  obtain ⟨P, Q, h3, h4, h5⟩ := h2.cut (p := a :: x) (q := y ++ [a]) hb (by simp)
  match P, h3 with
  | [], h3 =>
    rw [List.nil_append] at h3
    injection h3 with h6 h7
    exact absurd h6 hab
  | c :: P, h3 =>
    rw [List.cons_append, List.cons_append] at h3
    injection h3 with h6 h7
    subst h6
    rcases cut_app h7 with ⟨q1, h8, rfl⟩ | ⟨p1, h8, rfl⟩
    · exact ⟨p2, q2, P, q1, h1, h8, by simpa using h4, by simpa using h5⟩
    · match p1, h8 with
      | [], h8 =>
        injection h8 with h9 h10
        exact absurd h9 hab
      | c :: p1, h8 =>
        injection h8 with h9 h10
        exact absurd h10 (by simp)
